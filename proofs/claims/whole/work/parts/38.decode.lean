abbrev b_La_law : ByteArray := code
theorem d_La_law_0 : decode code 0 = .ok (.new 8, 3) := by decide +kernel
theorem d_La_law_3 : decode code 3 = .ok (.dup, 1) := by decide +kernel
theorem d_La_law_4 : decode code 4 = .ok (.invokespecial 82, 3) := by decide +kernel
theorem d_La_law_7 : decode code 7 = .ok (.astore_n 1, 1) := by decide +kernel
theorem d_La_law_8 : decode code 8 = .ok (.new 83, 3) := by decide +kernel
theorem d_La_law_11 : decode code 11 = .ok (.dup, 1) := by decide +kernel
theorem d_La_law_12 : decode code 12 = .ok (.invokespecial 85, 3) := by decide +kernel
theorem d_La_law_15 : decode code 15 = .ok (.astore_n 2, 1) := by decide +kernel
theorem d_La_law_16 : decode code 16 = .ok (.iconst 1, 1) := by decide +kernel
theorem d_La_law_17 : decode code 17 = .ok (.newarray .long, 2) := by decide +kernel
theorem d_La_law_19 : decode code 19 = .ok (.astore_n 3, 1) := by decide +kernel
theorem d_La_law_20 : decode code 20 = .ok (.iconst 0, 1) := by decide +kernel
theorem d_La_law_21 : decode code 21 = .ok (.istore 4, 2) := by decide +kernel
theorem d_La_law_23 : decode code 23 = .ok (.iload 4, 2) := by decide +kernel
theorem d_La_law_25 : decode code 25 = .ok (.aload_n 0, 1) := by decide +kernel
theorem d_La_law_26 : decode code 26 = .ok (.arraylength, 1) := by decide +kernel
theorem d_La_law_27 : decode code 27 = .ok (.bipush 7, 2) := by decide +kernel
theorem d_La_law_29 : decode code 29 = .ok (.isub, 1) := by decide +kernel
theorem d_La_law_30 : decode code 30 = .ok (.if_icmp .gt 1339, 3) := by decide +kernel
theorem d_La_law_33 : decode code 33 = .ok (.aload_n 0, 1) := by decide +kernel
theorem d_La_law_34 : decode code 34 = .ok (.iload 4, 2) := by decide +kernel
theorem d_La_law_36 : decode code 36 = .ok (.iaload, 1) := by decide +kernel
theorem d_La_law_37 : decode code 37 = .ok (.bipush 31, 2) := by decide +kernel
theorem d_La_law_39 : decode code 39 = .ok (.iand, 1) := by decide +kernel
theorem d_La_law_40 : decode code 40 = .ok (.tableswitch 1323 0 18 #[92, 148, 192, 260, 328, 396, 452, 508, 588, 707, 774, 841, 897, 972, 1020, 1138, 1149, 1212, 1268], 92) := by decide +kernel
theorem d_La_law_132 : decode code 132 = .ok (.aload_n 1, 1) := by decide +kernel
theorem d_La_law_133 : decode code 133 = .ok (.aload_n 0, 1) := by decide +kernel
theorem d_La_law_134 : decode code 134 = .ok (.iload 4, 2) := by decide +kernel
theorem d_La_law_136 : decode code 136 = .ok (.iconst 1, 1) := by decide +kernel
theorem d_La_law_137 : decode code 137 = .ok (.iadd, 1) := by decide +kernel
theorem d_La_law_138 : decode code 138 = .ok (.iaload, 1) := by decide +kernel
theorem d_La_law_139 : decode code 139 = .ok (.aload_n 3, 1) := by decide +kernel
theorem d_La_law_140 : decode code 140 = .ok (.invokestatic 86, 3) := by decide +kernel
theorem d_La_law_143 : decode code 143 = .ok (.istore 5, 2) := by decide +kernel
theorem d_La_law_145 : decode code 145 = .ok (.aload_n 2, 1) := by decide +kernel
theorem d_La_law_146 : decode code 146 = .ok (.aload_n 0, 1) := by decide +kernel
theorem d_La_law_147 : decode code 147 = .ok (.iload 4, 2) := by decide +kernel
theorem d_La_law_149 : decode code 149 = .ok (.iconst 1, 1) := by decide +kernel
theorem d_La_law_150 : decode code 150 = .ok (.iadd, 1) := by decide +kernel
theorem d_La_law_151 : decode code 151 = .ok (.iaload, 1) := by decide +kernel
theorem d_La_law_152 : decode code 152 = .ok (.invokevirtual 91, 3) := by decide +kernel
theorem d_La_law_155 : decode code 155 = .ok (.istore 6, 2) := by decide +kernel
theorem d_La_law_157 : decode code 157 = .ok (.aload_n 2, 1) := by decide +kernel
theorem d_La_law_158 : decode code 158 = .ok (.invokevirtual 92, 3) := by decide +kernel
theorem d_La_law_161 : decode code 161 = .ok (.iload 5, 2) := by decide +kernel
theorem d_La_law_163 : decode code 163 = .ok (.if_icmp .eq 5, 3) := by decide +kernel
theorem d_La_law_166 : decode code 166 = .ok (.iconst 0, 1) := by decide +kernel
theorem d_La_law_167 : decode code 167 = .ok (.ireturn, 1) := by decide +kernel
theorem d_La_law_168 : decode code 168 = .ok (.iload 5, 2) := by decide +kernel
theorem d_La_law_170 : decode code 170 = .ok (.ifCond .ne 15, 3) := by decide +kernel
theorem d_La_law_173 : decode code 173 = .ok (.aload_n 3, 1) := by decide +kernel
theorem d_La_law_174 : decode code 174 = .ok (.iconst 0, 1) := by decide +kernel
theorem d_La_law_175 : decode code 175 = .ok (.laload, 1) := by decide +kernel
theorem d_La_law_176 : decode code 176 = .ok (.iload 6, 2) := by decide +kernel
theorem d_La_law_178 : decode code 178 = .ok (.i2l, 1) := by decide +kernel
theorem d_La_law_179 : decode code 179 = .ok (.lcmp, 1) := by decide +kernel
theorem d_La_law_180 : decode code 180 = .ok (.ifCond .eq 5, 3) := by decide +kernel
theorem d_La_law_183 : decode code 183 = .ok (.iconst 0, 1) := by decide +kernel
theorem d_La_law_184 : decode code 184 = .ok (.ireturn, 1) := by decide +kernel
theorem d_La_law_185 : decode code 185 = .ok (.goto 1178, 3) := by decide +kernel
theorem d_La_law_188 : decode code 188 = .ok (.aload_n 1, 1) := by decide +kernel
theorem d_La_law_189 : decode code 189 = .ok (.aload_n 3, 1) := by decide +kernel
theorem d_La_law_190 : decode code 190 = .ok (.invokestatic 95, 3) := by decide +kernel
theorem d_La_law_193 : decode code 193 = .ok (.istore 5, 2) := by decide +kernel
theorem d_La_law_195 : decode code 195 = .ok (.aload_n 2, 1) := by decide +kernel
theorem d_La_law_196 : decode code 196 = .ok (.invokevirtual 98, 3) := by decide +kernel
theorem d_La_law_199 : decode code 199 = .ok (.istore 6, 2) := by decide +kernel
theorem d_La_law_201 : decode code 201 = .ok (.aload_n 2, 1) := by decide +kernel
theorem d_La_law_202 : decode code 202 = .ok (.invokevirtual 92, 3) := by decide +kernel
theorem d_La_law_205 : decode code 205 = .ok (.iload 5, 2) := by decide +kernel
theorem d_La_law_207 : decode code 207 = .ok (.if_icmp .eq 5, 3) := by decide +kernel
theorem d_La_law_210 : decode code 210 = .ok (.iconst 0, 1) := by decide +kernel
theorem d_La_law_211 : decode code 211 = .ok (.ireturn, 1) := by decide +kernel
theorem d_La_law_212 : decode code 212 = .ok (.iload 5, 2) := by decide +kernel
theorem d_La_law_214 : decode code 214 = .ok (.ifCond .ne 15, 3) := by decide +kernel
theorem d_La_law_217 : decode code 217 = .ok (.aload_n 3, 1) := by decide +kernel
theorem d_La_law_218 : decode code 218 = .ok (.iconst 0, 1) := by decide +kernel
theorem d_La_law_219 : decode code 219 = .ok (.laload, 1) := by decide +kernel
theorem d_La_law_220 : decode code 220 = .ok (.iload 6, 2) := by decide +kernel
theorem d_La_law_222 : decode code 222 = .ok (.i2l, 1) := by decide +kernel
theorem d_La_law_223 : decode code 223 = .ok (.lcmp, 1) := by decide +kernel
theorem d_La_law_224 : decode code 224 = .ok (.ifCond .eq 5, 3) := by decide +kernel
theorem d_La_law_227 : decode code 227 = .ok (.iconst 0, 1) := by decide +kernel
theorem d_La_law_228 : decode code 228 = .ok (.ireturn, 1) := by decide +kernel
theorem d_La_law_229 : decode code 229 = .ok (.goto 1134, 3) := by decide +kernel
theorem d_La_law_232 : decode code 232 = .ok (.aload_n 1, 1) := by decide +kernel
theorem d_La_law_233 : decode code 233 = .ok (.aload_n 0, 1) := by decide +kernel
theorem d_La_law_234 : decode code 234 = .ok (.iload 4, 2) := by decide +kernel
theorem d_La_law_236 : decode code 236 = .ok (.iconst 1, 1) := by decide +kernel
theorem d_La_law_237 : decode code 237 = .ok (.iadd, 1) := by decide +kernel
theorem d_La_law_238 : decode code 238 = .ok (.iaload, 1) := by decide +kernel
theorem d_La_law_239 : decode code 239 = .ok (.aload_n 0, 1) := by decide +kernel
theorem d_La_law_240 : decode code 240 = .ok (.iload 4, 2) := by decide +kernel
theorem d_La_law_242 : decode code 242 = .ok (.iconst 2, 1) := by decide +kernel
theorem d_La_law_243 : decode code 243 = .ok (.iadd, 1) := by decide +kernel
theorem d_La_law_244 : decode code 244 = .ok (.iaload, 1) := by decide +kernel
theorem d_La_law_245 : decode code 245 = .ok (.aload_n 3, 1) := by decide +kernel
theorem d_La_law_246 : decode code 246 = .ok (.invokestatic 99, 3) := by decide +kernel
theorem d_La_law_249 : decode code 249 = .ok (.istore 5, 2) := by decide +kernel
theorem d_La_law_251 : decode code 251 = .ok (.aload_n 2, 1) := by decide +kernel
theorem d_La_law_252 : decode code 252 = .ok (.aload_n 0, 1) := by decide +kernel
theorem d_La_law_253 : decode code 253 = .ok (.iload 4, 2) := by decide +kernel
theorem d_La_law_255 : decode code 255 = .ok (.iconst 1, 1) := by decide +kernel
theorem d_La_law_256 : decode code 256 = .ok (.iadd, 1) := by decide +kernel
theorem d_La_law_257 : decode code 257 = .ok (.iaload, 1) := by decide +kernel
theorem d_La_law_258 : decode code 258 = .ok (.aload_n 0, 1) := by decide +kernel
theorem d_La_law_259 : decode code 259 = .ok (.iload 4, 2) := by decide +kernel
theorem d_La_law_261 : decode code 261 = .ok (.iconst 2, 1) := by decide +kernel
theorem d_La_law_262 : decode code 262 = .ok (.iadd, 1) := by decide +kernel
theorem d_La_law_263 : decode code 263 = .ok (.iaload, 1) := by decide +kernel
theorem d_La_law_264 : decode code 264 = .ok (.invokevirtual 102, 3) := by decide +kernel
theorem d_La_law_267 : decode code 267 = .ok (.istore 6, 2) := by decide +kernel
theorem d_La_law_269 : decode code 269 = .ok (.aload_n 2, 1) := by decide +kernel
theorem d_La_law_270 : decode code 270 = .ok (.invokevirtual 92, 3) := by decide +kernel
theorem d_La_law_273 : decode code 273 = .ok (.iload 5, 2) := by decide +kernel
theorem d_La_law_275 : decode code 275 = .ok (.if_icmp .eq 5, 3) := by decide +kernel
theorem d_La_law_278 : decode code 278 = .ok (.iconst 0, 1) := by decide +kernel
theorem d_La_law_279 : decode code 279 = .ok (.ireturn, 1) := by decide +kernel
theorem d_La_law_280 : decode code 280 = .ok (.iload 5, 2) := by decide +kernel
theorem d_La_law_282 : decode code 282 = .ok (.ifCond .ne 15, 3) := by decide +kernel
theorem d_La_law_285 : decode code 285 = .ok (.aload_n 3, 1) := by decide +kernel
theorem d_La_law_286 : decode code 286 = .ok (.iconst 0, 1) := by decide +kernel
theorem d_La_law_287 : decode code 287 = .ok (.laload, 1) := by decide +kernel
theorem d_La_law_288 : decode code 288 = .ok (.iload 6, 2) := by decide +kernel
theorem d_La_law_290 : decode code 290 = .ok (.i2l, 1) := by decide +kernel
theorem d_La_law_291 : decode code 291 = .ok (.lcmp, 1) := by decide +kernel
theorem d_La_law_292 : decode code 292 = .ok (.ifCond .eq 5, 3) := by decide +kernel
theorem d_La_law_295 : decode code 295 = .ok (.iconst 0, 1) := by decide +kernel
theorem d_La_law_296 : decode code 296 = .ok (.ireturn, 1) := by decide +kernel
theorem d_La_law_297 : decode code 297 = .ok (.goto 1066, 3) := by decide +kernel
theorem d_La_law_300 : decode code 300 = .ok (.aload_n 1, 1) := by decide +kernel
theorem d_La_law_301 : decode code 301 = .ok (.aload_n 0, 1) := by decide +kernel
theorem d_La_law_302 : decode code 302 = .ok (.iload 4, 2) := by decide +kernel
theorem d_La_law_304 : decode code 304 = .ok (.iconst 1, 1) := by decide +kernel
theorem d_La_law_305 : decode code 305 = .ok (.iadd, 1) := by decide +kernel
theorem d_La_law_306 : decode code 306 = .ok (.iaload, 1) := by decide +kernel
theorem d_La_law_307 : decode code 307 = .ok (.aload_n 0, 1) := by decide +kernel
theorem d_La_law_308 : decode code 308 = .ok (.iload 4, 2) := by decide +kernel
theorem d_La_law_310 : decode code 310 = .ok (.iconst 2, 1) := by decide +kernel
theorem d_La_law_311 : decode code 311 = .ok (.iadd, 1) := by decide +kernel
theorem d_La_law_312 : decode code 312 = .ok (.iaload, 1) := by decide +kernel
theorem d_La_law_313 : decode code 313 = .ok (.aload_n 3, 1) := by decide +kernel
theorem d_La_law_314 : decode code 314 = .ok (.invokestatic 103, 3) := by decide +kernel
theorem d_La_law_317 : decode code 317 = .ok (.istore 5, 2) := by decide +kernel
theorem d_La_law_319 : decode code 319 = .ok (.aload_n 2, 1) := by decide +kernel
theorem d_La_law_320 : decode code 320 = .ok (.aload_n 0, 1) := by decide +kernel
theorem d_La_law_321 : decode code 321 = .ok (.iload 4, 2) := by decide +kernel
theorem d_La_law_323 : decode code 323 = .ok (.iconst 1, 1) := by decide +kernel
theorem d_La_law_324 : decode code 324 = .ok (.iadd, 1) := by decide +kernel
theorem d_La_law_325 : decode code 325 = .ok (.iaload, 1) := by decide +kernel
theorem d_La_law_326 : decode code 326 = .ok (.aload_n 0, 1) := by decide +kernel
theorem d_La_law_327 : decode code 327 = .ok (.iload 4, 2) := by decide +kernel
theorem d_La_law_329 : decode code 329 = .ok (.iconst 2, 1) := by decide +kernel
theorem d_La_law_330 : decode code 330 = .ok (.iadd, 1) := by decide +kernel
theorem d_La_law_331 : decode code 331 = .ok (.iaload, 1) := by decide +kernel
theorem d_La_law_332 : decode code 332 = .ok (.invokevirtual 105, 3) := by decide +kernel
theorem d_La_law_335 : decode code 335 = .ok (.istore 6, 2) := by decide +kernel
theorem d_La_law_337 : decode code 337 = .ok (.aload_n 2, 1) := by decide +kernel
theorem d_La_law_338 : decode code 338 = .ok (.invokevirtual 92, 3) := by decide +kernel
theorem d_La_law_341 : decode code 341 = .ok (.iload 5, 2) := by decide +kernel
theorem d_La_law_343 : decode code 343 = .ok (.if_icmp .eq 5, 3) := by decide +kernel
theorem d_La_law_346 : decode code 346 = .ok (.iconst 0, 1) := by decide +kernel
theorem d_La_law_347 : decode code 347 = .ok (.ireturn, 1) := by decide +kernel
theorem d_La_law_348 : decode code 348 = .ok (.iload 5, 2) := by decide +kernel
theorem d_La_law_350 : decode code 350 = .ok (.ifCond .ne 15, 3) := by decide +kernel
theorem d_La_law_353 : decode code 353 = .ok (.aload_n 3, 1) := by decide +kernel
theorem d_La_law_354 : decode code 354 = .ok (.iconst 0, 1) := by decide +kernel
theorem d_La_law_355 : decode code 355 = .ok (.laload, 1) := by decide +kernel
theorem d_La_law_356 : decode code 356 = .ok (.iload 6, 2) := by decide +kernel
theorem d_La_law_358 : decode code 358 = .ok (.i2l, 1) := by decide +kernel
theorem d_La_law_359 : decode code 359 = .ok (.lcmp, 1) := by decide +kernel
theorem d_La_law_360 : decode code 360 = .ok (.ifCond .eq 5, 3) := by decide +kernel
theorem d_La_law_363 : decode code 363 = .ok (.iconst 0, 1) := by decide +kernel
theorem d_La_law_364 : decode code 364 = .ok (.ireturn, 1) := by decide +kernel
theorem d_La_law_365 : decode code 365 = .ok (.goto 998, 3) := by decide +kernel
theorem d_La_law_368 : decode code 368 = .ok (.aload_n 1, 1) := by decide +kernel
theorem d_La_law_369 : decode code 369 = .ok (.aload_n 0, 1) := by decide +kernel
theorem d_La_law_370 : decode code 370 = .ok (.iload 4, 2) := by decide +kernel
theorem d_La_law_372 : decode code 372 = .ok (.iconst 1, 1) := by decide +kernel
theorem d_La_law_373 : decode code 373 = .ok (.iadd, 1) := by decide +kernel
theorem d_La_law_374 : decode code 374 = .ok (.iaload, 1) := by decide +kernel
theorem d_La_law_375 : decode code 375 = .ok (.aload_n 0, 1) := by decide +kernel
theorem d_La_law_376 : decode code 376 = .ok (.iload 4, 2) := by decide +kernel
theorem d_La_law_378 : decode code 378 = .ok (.iconst 2, 1) := by decide +kernel
theorem d_La_law_379 : decode code 379 = .ok (.iadd, 1) := by decide +kernel
theorem d_La_law_380 : decode code 380 = .ok (.iaload, 1) := by decide +kernel
theorem d_La_law_381 : decode code 381 = .ok (.aload_n 3, 1) := by decide +kernel
theorem d_La_law_382 : decode code 382 = .ok (.invokestatic 106, 3) := by decide +kernel
theorem d_La_law_385 : decode code 385 = .ok (.istore 5, 2) := by decide +kernel
theorem d_La_law_387 : decode code 387 = .ok (.aload_n 2, 1) := by decide +kernel
theorem d_La_law_388 : decode code 388 = .ok (.aload_n 0, 1) := by decide +kernel
theorem d_La_law_389 : decode code 389 = .ok (.iload 4, 2) := by decide +kernel
theorem d_La_law_391 : decode code 391 = .ok (.iconst 1, 1) := by decide +kernel
theorem d_La_law_392 : decode code 392 = .ok (.iadd, 1) := by decide +kernel
theorem d_La_law_393 : decode code 393 = .ok (.iaload, 1) := by decide +kernel
theorem d_La_law_394 : decode code 394 = .ok (.aload_n 0, 1) := by decide +kernel
theorem d_La_law_395 : decode code 395 = .ok (.iload 4, 2) := by decide +kernel
theorem d_La_law_397 : decode code 397 = .ok (.iconst 2, 1) := by decide +kernel
theorem d_La_law_398 : decode code 398 = .ok (.iadd, 1) := by decide +kernel
theorem d_La_law_399 : decode code 399 = .ok (.iaload, 1) := by decide +kernel
theorem d_La_law_400 : decode code 400 = .ok (.invokevirtual 108, 3) := by decide +kernel
theorem d_La_law_403 : decode code 403 = .ok (.istore 6, 2) := by decide +kernel
theorem d_La_law_405 : decode code 405 = .ok (.aload_n 2, 1) := by decide +kernel
theorem d_La_law_406 : decode code 406 = .ok (.invokevirtual 92, 3) := by decide +kernel
theorem d_La_law_409 : decode code 409 = .ok (.iload 5, 2) := by decide +kernel
theorem d_La_law_411 : decode code 411 = .ok (.if_icmp .eq 5, 3) := by decide +kernel
theorem d_La_law_414 : decode code 414 = .ok (.iconst 0, 1) := by decide +kernel
theorem d_La_law_415 : decode code 415 = .ok (.ireturn, 1) := by decide +kernel
theorem d_La_law_416 : decode code 416 = .ok (.iload 5, 2) := by decide +kernel
theorem d_La_law_418 : decode code 418 = .ok (.ifCond .ne 15, 3) := by decide +kernel
theorem d_La_law_421 : decode code 421 = .ok (.aload_n 3, 1) := by decide +kernel
theorem d_La_law_422 : decode code 422 = .ok (.iconst 0, 1) := by decide +kernel
theorem d_La_law_423 : decode code 423 = .ok (.laload, 1) := by decide +kernel
theorem d_La_law_424 : decode code 424 = .ok (.iload 6, 2) := by decide +kernel
theorem d_La_law_426 : decode code 426 = .ok (.i2l, 1) := by decide +kernel
theorem d_La_law_427 : decode code 427 = .ok (.lcmp, 1) := by decide +kernel
theorem d_La_law_428 : decode code 428 = .ok (.ifCond .eq 5, 3) := by decide +kernel
theorem d_La_law_431 : decode code 431 = .ok (.iconst 0, 1) := by decide +kernel
theorem d_La_law_432 : decode code 432 = .ok (.ireturn, 1) := by decide +kernel
theorem d_La_law_433 : decode code 433 = .ok (.goto 930, 3) := by decide +kernel
theorem d_La_law_436 : decode code 436 = .ok (.aload_n 1, 1) := by decide +kernel
theorem d_La_law_437 : decode code 437 = .ok (.aload_n 0, 1) := by decide +kernel
theorem d_La_law_438 : decode code 438 = .ok (.iload 4, 2) := by decide +kernel
theorem d_La_law_440 : decode code 440 = .ok (.iconst 1, 1) := by decide +kernel
theorem d_La_law_441 : decode code 441 = .ok (.iadd, 1) := by decide +kernel
theorem d_La_law_442 : decode code 442 = .ok (.iaload, 1) := by decide +kernel
theorem d_La_law_443 : decode code 443 = .ok (.aload_n 3, 1) := by decide +kernel
theorem d_La_law_444 : decode code 444 = .ok (.invokestatic 109, 3) := by decide +kernel
theorem d_La_law_447 : decode code 447 = .ok (.istore 5, 2) := by decide +kernel
theorem d_La_law_449 : decode code 449 = .ok (.aload_n 2, 1) := by decide +kernel
theorem d_La_law_450 : decode code 450 = .ok (.aload_n 0, 1) := by decide +kernel
theorem d_La_law_451 : decode code 451 = .ok (.iload 4, 2) := by decide +kernel
theorem d_La_law_453 : decode code 453 = .ok (.iconst 1, 1) := by decide +kernel
theorem d_La_law_454 : decode code 454 = .ok (.iadd, 1) := by decide +kernel
theorem d_La_law_455 : decode code 455 = .ok (.iaload, 1) := by decide +kernel
theorem d_La_law_456 : decode code 456 = .ok (.invokevirtual 111, 3) := by decide +kernel
theorem d_La_law_459 : decode code 459 = .ok (.istore 6, 2) := by decide +kernel
theorem d_La_law_461 : decode code 461 = .ok (.aload_n 2, 1) := by decide +kernel
theorem d_La_law_462 : decode code 462 = .ok (.invokevirtual 92, 3) := by decide +kernel
theorem d_La_law_465 : decode code 465 = .ok (.iload 5, 2) := by decide +kernel
theorem d_La_law_467 : decode code 467 = .ok (.if_icmp .eq 5, 3) := by decide +kernel
theorem d_La_law_470 : decode code 470 = .ok (.iconst 0, 1) := by decide +kernel
theorem d_La_law_471 : decode code 471 = .ok (.ireturn, 1) := by decide +kernel
theorem d_La_law_472 : decode code 472 = .ok (.iload 5, 2) := by decide +kernel
theorem d_La_law_474 : decode code 474 = .ok (.ifCond .ne 15, 3) := by decide +kernel
theorem d_La_law_477 : decode code 477 = .ok (.aload_n 3, 1) := by decide +kernel
theorem d_La_law_478 : decode code 478 = .ok (.iconst 0, 1) := by decide +kernel
theorem d_La_law_479 : decode code 479 = .ok (.laload, 1) := by decide +kernel
theorem d_La_law_480 : decode code 480 = .ok (.iload 6, 2) := by decide +kernel
theorem d_La_law_482 : decode code 482 = .ok (.i2l, 1) := by decide +kernel
theorem d_La_law_483 : decode code 483 = .ok (.lcmp, 1) := by decide +kernel
theorem d_La_law_484 : decode code 484 = .ok (.ifCond .eq 5, 3) := by decide +kernel
theorem d_La_law_487 : decode code 487 = .ok (.iconst 0, 1) := by decide +kernel
theorem d_La_law_488 : decode code 488 = .ok (.ireturn, 1) := by decide +kernel
theorem d_La_law_489 : decode code 489 = .ok (.goto 874, 3) := by decide +kernel
theorem d_La_law_492 : decode code 492 = .ok (.aload_n 1, 1) := by decide +kernel
theorem d_La_law_493 : decode code 493 = .ok (.aload_n 0, 1) := by decide +kernel
theorem d_La_law_494 : decode code 494 = .ok (.iload 4, 2) := by decide +kernel
theorem d_La_law_496 : decode code 496 = .ok (.iconst 1, 1) := by decide +kernel
theorem d_La_law_497 : decode code 497 = .ok (.iadd, 1) := by decide +kernel
theorem d_La_law_498 : decode code 498 = .ok (.iaload, 1) := by decide +kernel
theorem d_La_law_499 : decode code 499 = .ok (.aload_n 3, 1) := by decide +kernel
theorem d_La_law_500 : decode code 500 = .ok (.invokestatic 112, 3) := by decide +kernel
theorem d_La_law_503 : decode code 503 = .ok (.istore 5, 2) := by decide +kernel
theorem d_La_law_505 : decode code 505 = .ok (.aload_n 2, 1) := by decide +kernel
theorem d_La_law_506 : decode code 506 = .ok (.aload_n 0, 1) := by decide +kernel
theorem d_La_law_507 : decode code 507 = .ok (.iload 4, 2) := by decide +kernel
theorem d_La_law_509 : decode code 509 = .ok (.iconst 1, 1) := by decide +kernel
theorem d_La_law_510 : decode code 510 = .ok (.iadd, 1) := by decide +kernel
theorem d_La_law_511 : decode code 511 = .ok (.iaload, 1) := by decide +kernel
theorem d_La_law_512 : decode code 512 = .ok (.invokevirtual 114, 3) := by decide +kernel
theorem d_La_law_515 : decode code 515 = .ok (.istore 6, 2) := by decide +kernel
theorem d_La_law_517 : decode code 517 = .ok (.aload_n 2, 1) := by decide +kernel
theorem d_La_law_518 : decode code 518 = .ok (.invokevirtual 92, 3) := by decide +kernel
theorem d_La_law_521 : decode code 521 = .ok (.iload 5, 2) := by decide +kernel
theorem d_La_law_523 : decode code 523 = .ok (.if_icmp .eq 5, 3) := by decide +kernel
theorem d_La_law_526 : decode code 526 = .ok (.iconst 0, 1) := by decide +kernel
theorem d_La_law_527 : decode code 527 = .ok (.ireturn, 1) := by decide +kernel
theorem d_La_law_528 : decode code 528 = .ok (.iload 5, 2) := by decide +kernel
theorem d_La_law_530 : decode code 530 = .ok (.ifCond .ne 15, 3) := by decide +kernel
theorem d_La_law_533 : decode code 533 = .ok (.aload_n 3, 1) := by decide +kernel
theorem d_La_law_534 : decode code 534 = .ok (.iconst 0, 1) := by decide +kernel
theorem d_La_law_535 : decode code 535 = .ok (.laload, 1) := by decide +kernel
theorem d_La_law_536 : decode code 536 = .ok (.iload 6, 2) := by decide +kernel
theorem d_La_law_538 : decode code 538 = .ok (.i2l, 1) := by decide +kernel
theorem d_La_law_539 : decode code 539 = .ok (.lcmp, 1) := by decide +kernel
theorem d_La_law_540 : decode code 540 = .ok (.ifCond .eq 5, 3) := by decide +kernel
theorem d_La_law_543 : decode code 543 = .ok (.iconst 0, 1) := by decide +kernel
theorem d_La_law_544 : decode code 544 = .ok (.ireturn, 1) := by decide +kernel
theorem d_La_law_545 : decode code 545 = .ok (.goto 818, 3) := by decide +kernel
theorem d_La_law_548 : decode code 548 = .ok (.aload_n 1, 1) := by decide +kernel
theorem d_La_law_549 : decode code 549 = .ok (.aload_n 0, 1) := by decide +kernel
theorem d_La_law_550 : decode code 550 = .ok (.iload 4, 2) := by decide +kernel
theorem d_La_law_552 : decode code 552 = .ok (.iconst 1, 1) := by decide +kernel
theorem d_La_law_553 : decode code 553 = .ok (.iadd, 1) := by decide +kernel
theorem d_La_law_554 : decode code 554 = .ok (.iaload, 1) := by decide +kernel
theorem d_La_law_555 : decode code 555 = .ok (.aload_n 0, 1) := by decide +kernel
theorem d_La_law_556 : decode code 556 = .ok (.iload 4, 2) := by decide +kernel
theorem d_La_law_558 : decode code 558 = .ok (.iconst 2, 1) := by decide +kernel
theorem d_La_law_559 : decode code 559 = .ok (.iadd, 1) := by decide +kernel
theorem d_La_law_560 : decode code 560 = .ok (.iaload, 1) := by decide +kernel
theorem d_La_law_561 : decode code 561 = .ok (.aload_n 0, 1) := by decide +kernel
theorem d_La_law_562 : decode code 562 = .ok (.iload 4, 2) := by decide +kernel
theorem d_La_law_564 : decode code 564 = .ok (.iconst 3, 1) := by decide +kernel
theorem d_La_law_565 : decode code 565 = .ok (.iadd, 1) := by decide +kernel
theorem d_La_law_566 : decode code 566 = .ok (.iaload, 1) := by decide +kernel
theorem d_La_law_567 : decode code 567 = .ok (.aload_n 3, 1) := by decide +kernel
theorem d_La_law_568 : decode code 568 = .ok (.invokestatic 115, 3) := by decide +kernel
theorem d_La_law_571 : decode code 571 = .ok (.istore 5, 2) := by decide +kernel
theorem d_La_law_573 : decode code 573 = .ok (.aload_n 2, 1) := by decide +kernel
theorem d_La_law_574 : decode code 574 = .ok (.aload_n 0, 1) := by decide +kernel
theorem d_La_law_575 : decode code 575 = .ok (.iload 4, 2) := by decide +kernel
theorem d_La_law_577 : decode code 577 = .ok (.iconst 1, 1) := by decide +kernel
theorem d_La_law_578 : decode code 578 = .ok (.iadd, 1) := by decide +kernel
theorem d_La_law_579 : decode code 579 = .ok (.iaload, 1) := by decide +kernel
theorem d_La_law_580 : decode code 580 = .ok (.aload_n 0, 1) := by decide +kernel
theorem d_La_law_581 : decode code 581 = .ok (.iload 4, 2) := by decide +kernel
theorem d_La_law_583 : decode code 583 = .ok (.iconst 2, 1) := by decide +kernel
theorem d_La_law_584 : decode code 584 = .ok (.iadd, 1) := by decide +kernel
theorem d_La_law_585 : decode code 585 = .ok (.iaload, 1) := by decide +kernel
theorem d_La_law_586 : decode code 586 = .ok (.aload_n 0, 1) := by decide +kernel
theorem d_La_law_587 : decode code 587 = .ok (.iload 4, 2) := by decide +kernel
theorem d_La_law_589 : decode code 589 = .ok (.iconst 3, 1) := by decide +kernel
theorem d_La_law_590 : decode code 590 = .ok (.iadd, 1) := by decide +kernel
theorem d_La_law_591 : decode code 591 = .ok (.iaload, 1) := by decide +kernel
theorem d_La_law_592 : decode code 592 = .ok (.invokevirtual 118, 3) := by decide +kernel
theorem d_La_law_595 : decode code 595 = .ok (.istore 6, 2) := by decide +kernel
theorem d_La_law_597 : decode code 597 = .ok (.aload_n 2, 1) := by decide +kernel
theorem d_La_law_598 : decode code 598 = .ok (.invokevirtual 92, 3) := by decide +kernel
theorem d_La_law_601 : decode code 601 = .ok (.iload 5, 2) := by decide +kernel
theorem d_La_law_603 : decode code 603 = .ok (.if_icmp .eq 5, 3) := by decide +kernel
theorem d_La_law_606 : decode code 606 = .ok (.iconst 0, 1) := by decide +kernel
theorem d_La_law_607 : decode code 607 = .ok (.ireturn, 1) := by decide +kernel
theorem d_La_law_608 : decode code 608 = .ok (.iload 5, 2) := by decide +kernel
theorem d_La_law_610 : decode code 610 = .ok (.ifCond .ne 15, 3) := by decide +kernel
theorem d_La_law_613 : decode code 613 = .ok (.aload_n 3, 1) := by decide +kernel
theorem d_La_law_614 : decode code 614 = .ok (.iconst 0, 1) := by decide +kernel
theorem d_La_law_615 : decode code 615 = .ok (.laload, 1) := by decide +kernel
theorem d_La_law_616 : decode code 616 = .ok (.iload 6, 2) := by decide +kernel
theorem d_La_law_618 : decode code 618 = .ok (.i2l, 1) := by decide +kernel
theorem d_La_law_619 : decode code 619 = .ok (.lcmp, 1) := by decide +kernel
theorem d_La_law_620 : decode code 620 = .ok (.ifCond .eq 5, 3) := by decide +kernel
theorem d_La_law_623 : decode code 623 = .ok (.iconst 0, 1) := by decide +kernel
theorem d_La_law_624 : decode code 624 = .ok (.ireturn, 1) := by decide +kernel
theorem d_La_law_625 : decode code 625 = .ok (.goto 738, 3) := by decide +kernel
theorem d_La_law_628 : decode code 628 = .ok (.aload_n 1, 1) := by decide +kernel
theorem d_La_law_629 : decode code 629 = .ok (.aload_n 0, 1) := by decide +kernel
theorem d_La_law_630 : decode code 630 = .ok (.iload 4, 2) := by decide +kernel
theorem d_La_law_632 : decode code 632 = .ok (.iconst 1, 1) := by decide +kernel
theorem d_La_law_633 : decode code 633 = .ok (.iadd, 1) := by decide +kernel
theorem d_La_law_634 : decode code 634 = .ok (.iaload, 1) := by decide +kernel
theorem d_La_law_635 : decode code 635 = .ok (.aload_n 0, 1) := by decide +kernel
theorem d_La_law_636 : decode code 636 = .ok (.iload 4, 2) := by decide +kernel
theorem d_La_law_638 : decode code 638 = .ok (.iconst 2, 1) := by decide +kernel
theorem d_La_law_639 : decode code 639 = .ok (.iadd, 1) := by decide +kernel
theorem d_La_law_640 : decode code 640 = .ok (.iaload, 1) := by decide +kernel
theorem d_La_law_641 : decode code 641 = .ok (.aload_n 0, 1) := by decide +kernel
theorem d_La_law_642 : decode code 642 = .ok (.iload 4, 2) := by decide +kernel
theorem d_La_law_644 : decode code 644 = .ok (.iconst 3, 1) := by decide +kernel
theorem d_La_law_645 : decode code 645 = .ok (.iadd, 1) := by decide +kernel
theorem d_La_law_646 : decode code 646 = .ok (.iaload, 1) := by decide +kernel
theorem d_La_law_647 : decode code 647 = .ok (.i2l, 1) := by decide +kernel
theorem d_La_law_648 : decode code 648 = .ok (.bipush 32, 2) := by decide +kernel
theorem d_La_law_650 : decode code 650 = .ok (.lshl, 1) := by decide +kernel
theorem d_La_law_651 : decode code 651 = .ok (.aload_n 0, 1) := by decide +kernel
theorem d_La_law_652 : decode code 652 = .ok (.iload 4, 2) := by decide +kernel
theorem d_La_law_654 : decode code 654 = .ok (.iconst 4, 1) := by decide +kernel
theorem d_La_law_655 : decode code 655 = .ok (.iadd, 1) := by decide +kernel
theorem d_La_law_656 : decode code 656 = .ok (.iaload, 1) := by decide +kernel
theorem d_La_law_657 : decode code 657 = .ok (.i2l, 1) := by decide +kernel
theorem d_La_law_658 : decode code 658 = .ok (.ldc2_w 119, 3) := by decide +kernel
theorem d_La_law_661 : decode code 661 = .ok (.land, 1) := by decide +kernel
theorem d_La_law_662 : decode code 662 = .ok (.lor, 1) := by decide +kernel
theorem d_La_law_663 : decode code 663 = .ok (.aload_n 3, 1) := by decide +kernel
theorem d_La_law_664 : decode code 664 = .ok (.invokestatic 121, 3) := by decide +kernel
theorem d_La_law_667 : decode code 667 = .ok (.istore 5, 2) := by decide +kernel
theorem d_La_law_669 : decode code 669 = .ok (.aload_n 2, 1) := by decide +kernel
theorem d_La_law_670 : decode code 670 = .ok (.aload_n 0, 1) := by decide +kernel
theorem d_La_law_671 : decode code 671 = .ok (.iload 4, 2) := by decide +kernel
theorem d_La_law_673 : decode code 673 = .ok (.iconst 1, 1) := by decide +kernel
theorem d_La_law_674 : decode code 674 = .ok (.iadd, 1) := by decide +kernel
theorem d_La_law_675 : decode code 675 = .ok (.iaload, 1) := by decide +kernel
theorem d_La_law_676 : decode code 676 = .ok (.aload_n 0, 1) := by decide +kernel
theorem d_La_law_677 : decode code 677 = .ok (.iload 4, 2) := by decide +kernel
theorem d_La_law_679 : decode code 679 = .ok (.iconst 2, 1) := by decide +kernel
theorem d_La_law_680 : decode code 680 = .ok (.iadd, 1) := by decide +kernel
theorem d_La_law_681 : decode code 681 = .ok (.iaload, 1) := by decide +kernel
theorem d_La_law_682 : decode code 682 = .ok (.aload_n 0, 1) := by decide +kernel
theorem d_La_law_683 : decode code 683 = .ok (.iload 4, 2) := by decide +kernel
theorem d_La_law_685 : decode code 685 = .ok (.iconst 3, 1) := by decide +kernel
theorem d_La_law_686 : decode code 686 = .ok (.iadd, 1) := by decide +kernel
theorem d_La_law_687 : decode code 687 = .ok (.iaload, 1) := by decide +kernel
theorem d_La_law_688 : decode code 688 = .ok (.i2l, 1) := by decide +kernel
theorem d_La_law_689 : decode code 689 = .ok (.bipush 32, 2) := by decide +kernel
theorem d_La_law_691 : decode code 691 = .ok (.lshl, 1) := by decide +kernel
theorem d_La_law_692 : decode code 692 = .ok (.aload_n 0, 1) := by decide +kernel
theorem d_La_law_693 : decode code 693 = .ok (.iload 4, 2) := by decide +kernel
theorem d_La_law_695 : decode code 695 = .ok (.iconst 4, 1) := by decide +kernel
theorem d_La_law_696 : decode code 696 = .ok (.iadd, 1) := by decide +kernel
theorem d_La_law_697 : decode code 697 = .ok (.iaload, 1) := by decide +kernel
theorem d_La_law_698 : decode code 698 = .ok (.i2l, 1) := by decide +kernel
theorem d_La_law_699 : decode code 699 = .ok (.ldc2_w 119, 3) := by decide +kernel
theorem d_La_law_702 : decode code 702 = .ok (.land, 1) := by decide +kernel
theorem d_La_law_703 : decode code 703 = .ok (.lor, 1) := by decide +kernel
theorem d_La_law_704 : decode code 704 = .ok (.invokevirtual 124, 3) := by decide +kernel
theorem d_La_law_707 : decode code 707 = .ok (.istore 6, 2) := by decide +kernel
theorem d_La_law_709 : decode code 709 = .ok (.aload_n 2, 1) := by decide +kernel
theorem d_La_law_710 : decode code 710 = .ok (.invokevirtual 92, 3) := by decide +kernel
theorem d_La_law_713 : decode code 713 = .ok (.iload 5, 2) := by decide +kernel
theorem d_La_law_715 : decode code 715 = .ok (.if_icmp .eq 5, 3) := by decide +kernel
theorem d_La_law_718 : decode code 718 = .ok (.iconst 0, 1) := by decide +kernel
theorem d_La_law_719 : decode code 719 = .ok (.ireturn, 1) := by decide +kernel
theorem d_La_law_720 : decode code 720 = .ok (.iload 5, 2) := by decide +kernel
theorem d_La_law_722 : decode code 722 = .ok (.ifCond .ne 22, 3) := by decide +kernel
theorem d_La_law_725 : decode code 725 = .ok (.aload_n 3, 1) := by decide +kernel
theorem d_La_law_726 : decode code 726 = .ok (.iconst 0, 1) := by decide +kernel
theorem d_La_law_727 : decode code 727 = .ok (.laload, 1) := by decide +kernel
theorem d_La_law_728 : decode code 728 = .ok (.iload 6, 2) := by decide +kernel
theorem d_La_law_730 : decode code 730 = .ok (.ifCond .eq 7, 3) := by decide +kernel
theorem d_La_law_733 : decode code 733 = .ok (.lconst 1, 1) := by decide +kernel
theorem d_La_law_734 : decode code 734 = .ok (.goto 4, 3) := by decide +kernel
theorem d_La_law_737 : decode code 737 = .ok (.lconst 0, 1) := by decide +kernel
theorem d_La_law_738 : decode code 738 = .ok (.lcmp, 1) := by decide +kernel
theorem d_La_law_739 : decode code 739 = .ok (.ifCond .eq 5, 3) := by decide +kernel
theorem d_La_law_742 : decode code 742 = .ok (.iconst 0, 1) := by decide +kernel
theorem d_La_law_743 : decode code 743 = .ok (.ireturn, 1) := by decide +kernel
theorem d_La_law_744 : decode code 744 = .ok (.goto 619, 3) := by decide +kernel
theorem d_La_law_747 : decode code 747 = .ok (.aload_n 1, 1) := by decide +kernel
theorem d_La_law_748 : decode code 748 = .ok (.aload_n 0, 1) := by decide +kernel
theorem d_La_law_749 : decode code 749 = .ok (.iload 4, 2) := by decide +kernel
theorem d_La_law_751 : decode code 751 = .ok (.iconst 1, 1) := by decide +kernel
theorem d_La_law_752 : decode code 752 = .ok (.iadd, 1) := by decide +kernel
theorem d_La_law_753 : decode code 753 = .ok (.iaload, 1) := by decide +kernel
theorem d_La_law_754 : decode code 754 = .ok (.aload_n 0, 1) := by decide +kernel
theorem d_La_law_755 : decode code 755 = .ok (.iload 4, 2) := by decide +kernel
theorem d_La_law_757 : decode code 757 = .ok (.iconst 2, 1) := by decide +kernel
theorem d_La_law_758 : decode code 758 = .ok (.iadd, 1) := by decide +kernel
theorem d_La_law_759 : decode code 759 = .ok (.iaload, 1) := by decide +kernel
theorem d_La_law_760 : decode code 760 = .ok (.aload_n 3, 1) := by decide +kernel
theorem d_La_law_761 : decode code 761 = .ok (.invokestatic 125, 3) := by decide +kernel
theorem d_La_law_764 : decode code 764 = .ok (.istore 5, 2) := by decide +kernel
theorem d_La_law_766 : decode code 766 = .ok (.aload_n 2, 1) := by decide +kernel
theorem d_La_law_767 : decode code 767 = .ok (.aload_n 0, 1) := by decide +kernel
theorem d_La_law_768 : decode code 768 = .ok (.iload 4, 2) := by decide +kernel
theorem d_La_law_770 : decode code 770 = .ok (.iconst 1, 1) := by decide +kernel
theorem d_La_law_771 : decode code 771 = .ok (.iadd, 1) := by decide +kernel
theorem d_La_law_772 : decode code 772 = .ok (.iaload, 1) := by decide +kernel
theorem d_La_law_773 : decode code 773 = .ok (.aload_n 0, 1) := by decide +kernel
theorem d_La_law_774 : decode code 774 = .ok (.iload 4, 2) := by decide +kernel
theorem d_La_law_776 : decode code 776 = .ok (.iconst 2, 1) := by decide +kernel
theorem d_La_law_777 : decode code 777 = .ok (.iadd, 1) := by decide +kernel
theorem d_La_law_778 : decode code 778 = .ok (.iaload, 1) := by decide +kernel
theorem d_La_law_779 : decode code 779 = .ok (.invokevirtual 127, 3) := by decide +kernel
theorem d_La_law_782 : decode code 782 = .ok (.lstore 6, 2) := by decide +kernel
theorem d_La_law_784 : decode code 784 = .ok (.aload_n 2, 1) := by decide +kernel
theorem d_La_law_785 : decode code 785 = .ok (.invokevirtual 92, 3) := by decide +kernel
theorem d_La_law_788 : decode code 788 = .ok (.iload 5, 2) := by decide +kernel
theorem d_La_law_790 : decode code 790 = .ok (.if_icmp .eq 5, 3) := by decide +kernel
theorem d_La_law_793 : decode code 793 = .ok (.iconst 0, 1) := by decide +kernel
theorem d_La_law_794 : decode code 794 = .ok (.ireturn, 1) := by decide +kernel
theorem d_La_law_795 : decode code 795 = .ok (.iload 5, 2) := by decide +kernel
theorem d_La_law_797 : decode code 797 = .ok (.ifCond .ne 14, 3) := by decide +kernel
theorem d_La_law_800 : decode code 800 = .ok (.aload_n 3, 1) := by decide +kernel
theorem d_La_law_801 : decode code 801 = .ok (.iconst 0, 1) := by decide +kernel
theorem d_La_law_802 : decode code 802 = .ok (.laload, 1) := by decide +kernel
theorem d_La_law_803 : decode code 803 = .ok (.lload 6, 2) := by decide +kernel
theorem d_La_law_805 : decode code 805 = .ok (.lcmp, 1) := by decide +kernel
theorem d_La_law_806 : decode code 806 = .ok (.ifCond .eq 5, 3) := by decide +kernel
theorem d_La_law_809 : decode code 809 = .ok (.iconst 0, 1) := by decide +kernel
theorem d_La_law_810 : decode code 810 = .ok (.ireturn, 1) := by decide +kernel
theorem d_La_law_811 : decode code 811 = .ok (.goto 552, 3) := by decide +kernel
theorem d_La_law_814 : decode code 814 = .ok (.aload_n 1, 1) := by decide +kernel
theorem d_La_law_815 : decode code 815 = .ok (.aload_n 0, 1) := by decide +kernel
theorem d_La_law_816 : decode code 816 = .ok (.iload 4, 2) := by decide +kernel
theorem d_La_law_818 : decode code 818 = .ok (.iconst 1, 1) := by decide +kernel
theorem d_La_law_819 : decode code 819 = .ok (.iadd, 1) := by decide +kernel
theorem d_La_law_820 : decode code 820 = .ok (.iaload, 1) := by decide +kernel
theorem d_La_law_821 : decode code 821 = .ok (.aload_n 0, 1) := by decide +kernel
theorem d_La_law_822 : decode code 822 = .ok (.iload 4, 2) := by decide +kernel
theorem d_La_law_824 : decode code 824 = .ok (.iconst 2, 1) := by decide +kernel
theorem d_La_law_825 : decode code 825 = .ok (.iadd, 1) := by decide +kernel
theorem d_La_law_826 : decode code 826 = .ok (.iaload, 1) := by decide +kernel
theorem d_La_law_827 : decode code 827 = .ok (.aload_n 3, 1) := by decide +kernel
theorem d_La_law_828 : decode code 828 = .ok (.invokestatic 128, 3) := by decide +kernel
theorem d_La_law_831 : decode code 831 = .ok (.istore 5, 2) := by decide +kernel
theorem d_La_law_833 : decode code 833 = .ok (.aload_n 2, 1) := by decide +kernel
theorem d_La_law_834 : decode code 834 = .ok (.aload_n 0, 1) := by decide +kernel
theorem d_La_law_835 : decode code 835 = .ok (.iload 4, 2) := by decide +kernel
theorem d_La_law_837 : decode code 837 = .ok (.iconst 1, 1) := by decide +kernel
theorem d_La_law_838 : decode code 838 = .ok (.iadd, 1) := by decide +kernel
theorem d_La_law_839 : decode code 839 = .ok (.iaload, 1) := by decide +kernel
theorem d_La_law_840 : decode code 840 = .ok (.aload_n 0, 1) := by decide +kernel
theorem d_La_law_841 : decode code 841 = .ok (.iload 4, 2) := by decide +kernel
theorem d_La_law_843 : decode code 843 = .ok (.iconst 2, 1) := by decide +kernel
theorem d_La_law_844 : decode code 844 = .ok (.iadd, 1) := by decide +kernel
theorem d_La_law_845 : decode code 845 = .ok (.iaload, 1) := by decide +kernel
theorem d_La_law_846 : decode code 846 = .ok (.invokevirtual 130, 3) := by decide +kernel
theorem d_La_law_849 : decode code 849 = .ok (.lstore 6, 2) := by decide +kernel
theorem d_La_law_851 : decode code 851 = .ok (.aload_n 2, 1) := by decide +kernel
theorem d_La_law_852 : decode code 852 = .ok (.invokevirtual 92, 3) := by decide +kernel
theorem d_La_law_855 : decode code 855 = .ok (.iload 5, 2) := by decide +kernel
theorem d_La_law_857 : decode code 857 = .ok (.if_icmp .eq 5, 3) := by decide +kernel
theorem d_La_law_860 : decode code 860 = .ok (.iconst 0, 1) := by decide +kernel
theorem d_La_law_861 : decode code 861 = .ok (.ireturn, 1) := by decide +kernel
theorem d_La_law_862 : decode code 862 = .ok (.iload 5, 2) := by decide +kernel
theorem d_La_law_864 : decode code 864 = .ok (.ifCond .ne 14, 3) := by decide +kernel
theorem d_La_law_867 : decode code 867 = .ok (.aload_n 3, 1) := by decide +kernel
theorem d_La_law_868 : decode code 868 = .ok (.iconst 0, 1) := by decide +kernel
theorem d_La_law_869 : decode code 869 = .ok (.laload, 1) := by decide +kernel
theorem d_La_law_870 : decode code 870 = .ok (.lload 6, 2) := by decide +kernel
theorem d_La_law_872 : decode code 872 = .ok (.lcmp, 1) := by decide +kernel
theorem d_La_law_873 : decode code 873 = .ok (.ifCond .eq 5, 3) := by decide +kernel
theorem d_La_law_876 : decode code 876 = .ok (.iconst 0, 1) := by decide +kernel
theorem d_La_law_877 : decode code 877 = .ok (.ireturn, 1) := by decide +kernel
theorem d_La_law_878 : decode code 878 = .ok (.goto 485, 3) := by decide +kernel
theorem d_La_law_881 : decode code 881 = .ok (.aload_n 1, 1) := by decide +kernel
theorem d_La_law_882 : decode code 882 = .ok (.aload_n 0, 1) := by decide +kernel
theorem d_La_law_883 : decode code 883 = .ok (.iload 4, 2) := by decide +kernel
theorem d_La_law_885 : decode code 885 = .ok (.iconst 1, 1) := by decide +kernel
theorem d_La_law_886 : decode code 886 = .ok (.iadd, 1) := by decide +kernel
theorem d_La_law_887 : decode code 887 = .ok (.iaload, 1) := by decide +kernel
theorem d_La_law_888 : decode code 888 = .ok (.aload_n 3, 1) := by decide +kernel
theorem d_La_law_889 : decode code 889 = .ok (.invokestatic 131, 3) := by decide +kernel
theorem d_La_law_892 : decode code 892 = .ok (.istore 5, 2) := by decide +kernel
theorem d_La_law_894 : decode code 894 = .ok (.aload_n 2, 1) := by decide +kernel
theorem d_La_law_895 : decode code 895 = .ok (.aload_n 0, 1) := by decide +kernel
theorem d_La_law_896 : decode code 896 = .ok (.iload 4, 2) := by decide +kernel
theorem d_La_law_898 : decode code 898 = .ok (.iconst 1, 1) := by decide +kernel
theorem d_La_law_899 : decode code 899 = .ok (.iadd, 1) := by decide +kernel
theorem d_La_law_900 : decode code 900 = .ok (.iaload, 1) := by decide +kernel
theorem d_La_law_901 : decode code 901 = .ok (.invokevirtual 133, 3) := by decide +kernel
theorem d_La_law_904 : decode code 904 = .ok (.istore 6, 2) := by decide +kernel
theorem d_La_law_906 : decode code 906 = .ok (.aload_n 2, 1) := by decide +kernel
theorem d_La_law_907 : decode code 907 = .ok (.invokevirtual 92, 3) := by decide +kernel
theorem d_La_law_910 : decode code 910 = .ok (.iload 5, 2) := by decide +kernel
theorem d_La_law_912 : decode code 912 = .ok (.if_icmp .eq 5, 3) := by decide +kernel
theorem d_La_law_915 : decode code 915 = .ok (.iconst 0, 1) := by decide +kernel
theorem d_La_law_916 : decode code 916 = .ok (.ireturn, 1) := by decide +kernel
theorem d_La_law_917 : decode code 917 = .ok (.iload 5, 2) := by decide +kernel
theorem d_La_law_919 : decode code 919 = .ok (.ifCond .ne 15, 3) := by decide +kernel
theorem d_La_law_922 : decode code 922 = .ok (.aload_n 3, 1) := by decide +kernel
theorem d_La_law_923 : decode code 923 = .ok (.iconst 0, 1) := by decide +kernel
theorem d_La_law_924 : decode code 924 = .ok (.laload, 1) := by decide +kernel
theorem d_La_law_925 : decode code 925 = .ok (.iload 6, 2) := by decide +kernel
theorem d_La_law_927 : decode code 927 = .ok (.i2l, 1) := by decide +kernel
theorem d_La_law_928 : decode code 928 = .ok (.lcmp, 1) := by decide +kernel
theorem d_La_law_929 : decode code 929 = .ok (.ifCond .eq 5, 3) := by decide +kernel
theorem d_La_law_932 : decode code 932 = .ok (.iconst 0, 1) := by decide +kernel
theorem d_La_law_933 : decode code 933 = .ok (.ireturn, 1) := by decide +kernel
theorem d_La_law_934 : decode code 934 = .ok (.goto 429, 3) := by decide +kernel
theorem d_La_law_937 : decode code 937 = .ok (.aload_n 1, 1) := by decide +kernel
theorem d_La_law_938 : decode code 938 = .ok (.aload_n 0, 1) := by decide +kernel
theorem d_La_law_939 : decode code 939 = .ok (.iload 4, 2) := by decide +kernel
theorem d_La_law_941 : decode code 941 = .ok (.iconst 1, 1) := by decide +kernel
theorem d_La_law_942 : decode code 942 = .ok (.iadd, 1) := by decide +kernel
theorem d_La_law_943 : decode code 943 = .ok (.iaload, 1) := by decide +kernel
theorem d_La_law_944 : decode code 944 = .ok (.aload_n 0, 1) := by decide +kernel
theorem d_La_law_945 : decode code 945 = .ok (.iload 4, 2) := by decide +kernel
theorem d_La_law_947 : decode code 947 = .ok (.iconst 2, 1) := by decide +kernel
theorem d_La_law_948 : decode code 948 = .ok (.iadd, 1) := by decide +kernel
theorem d_La_law_949 : decode code 949 = .ok (.iaload, 1) := by decide +kernel
theorem d_La_law_950 : decode code 950 = .ok (.aload_n 3, 1) := by decide +kernel
theorem d_La_law_951 : decode code 951 = .ok (.invokestatic 134, 3) := by decide +kernel
theorem d_La_law_954 : decode code 954 = .ok (.istore 5, 2) := by decide +kernel
theorem d_La_law_956 : decode code 956 = .ok (.aload_n 2, 1) := by decide +kernel
theorem d_La_law_957 : decode code 957 = .ok (.aload_n 0, 1) := by decide +kernel
theorem d_La_law_958 : decode code 958 = .ok (.iload 4, 2) := by decide +kernel
theorem d_La_law_960 : decode code 960 = .ok (.iconst 1, 1) := by decide +kernel
theorem d_La_law_961 : decode code 961 = .ok (.iadd, 1) := by decide +kernel
theorem d_La_law_962 : decode code 962 = .ok (.iaload, 1) := by decide +kernel
theorem d_La_law_963 : decode code 963 = .ok (.aload_n 0, 1) := by decide +kernel
theorem d_La_law_964 : decode code 964 = .ok (.iload 4, 2) := by decide +kernel
theorem d_La_law_966 : decode code 966 = .ok (.iconst 2, 1) := by decide +kernel
theorem d_La_law_967 : decode code 967 = .ok (.iadd, 1) := by decide +kernel
theorem d_La_law_968 : decode code 968 = .ok (.iaload, 1) := by decide +kernel
theorem d_La_law_969 : decode code 969 = .ok (.invokevirtual 136, 3) := by decide +kernel
theorem d_La_law_972 : decode code 972 = .ok (.istore 6, 2) := by decide +kernel
theorem d_La_law_974 : decode code 974 = .ok (.aload_n 2, 1) := by decide +kernel
theorem d_La_law_975 : decode code 975 = .ok (.invokevirtual 92, 3) := by decide +kernel
theorem d_La_law_978 : decode code 978 = .ok (.iload 5, 2) := by decide +kernel
theorem d_La_law_980 : decode code 980 = .ok (.if_icmp .eq 5, 3) := by decide +kernel
theorem d_La_law_983 : decode code 983 = .ok (.iconst 0, 1) := by decide +kernel
theorem d_La_law_984 : decode code 984 = .ok (.ireturn, 1) := by decide +kernel
theorem d_La_law_985 : decode code 985 = .ok (.iload 5, 2) := by decide +kernel
theorem d_La_law_987 : decode code 987 = .ok (.ifCond .ne 22, 3) := by decide +kernel
theorem d_La_law_990 : decode code 990 = .ok (.aload_n 3, 1) := by decide +kernel
theorem d_La_law_991 : decode code 991 = .ok (.iconst 0, 1) := by decide +kernel
theorem d_La_law_992 : decode code 992 = .ok (.laload, 1) := by decide +kernel
theorem d_La_law_993 : decode code 993 = .ok (.iload 6, 2) := by decide +kernel
theorem d_La_law_995 : decode code 995 = .ok (.ifCond .eq 7, 3) := by decide +kernel
theorem d_La_law_998 : decode code 998 = .ok (.lconst 1, 1) := by decide +kernel
theorem d_La_law_999 : decode code 999 = .ok (.goto 4, 3) := by decide +kernel
theorem d_La_law_1002 : decode code 1002 = .ok (.lconst 0, 1) := by decide +kernel
theorem d_La_law_1003 : decode code 1003 = .ok (.lcmp, 1) := by decide +kernel
theorem d_La_law_1004 : decode code 1004 = .ok (.ifCond .eq 5, 3) := by decide +kernel
theorem d_La_law_1007 : decode code 1007 = .ok (.iconst 0, 1) := by decide +kernel
theorem d_La_law_1008 : decode code 1008 = .ok (.ireturn, 1) := by decide +kernel
theorem d_La_law_1009 : decode code 1009 = .ok (.goto 354, 3) := by decide +kernel
theorem d_La_law_1012 : decode code 1012 = .ok (.aload_n 1, 1) := by decide +kernel
theorem d_La_law_1013 : decode code 1013 = .ok (.aload_n 0, 1) := by decide +kernel
theorem d_La_law_1014 : decode code 1014 = .ok (.iload 4, 2) := by decide +kernel
theorem d_La_law_1016 : decode code 1016 = .ok (.iconst 1, 1) := by decide +kernel
theorem d_La_law_1017 : decode code 1017 = .ok (.iadd, 1) := by decide +kernel
theorem d_La_law_1018 : decode code 1018 = .ok (.iaload, 1) := by decide +kernel
theorem d_La_law_1019 : decode code 1019 = .ok (.aload_n 0, 1) := by decide +kernel
theorem d_La_law_1020 : decode code 1020 = .ok (.iload 4, 2) := by decide +kernel
theorem d_La_law_1022 : decode code 1022 = .ok (.iconst 2, 1) := by decide +kernel
theorem d_La_law_1023 : decode code 1023 = .ok (.iadd, 1) := by decide +kernel
theorem d_La_law_1024 : decode code 1024 = .ok (.iaload, 1) := by decide +kernel
theorem d_La_law_1025 : decode code 1025 = .ok (.invokestatic 137, 3) := by decide +kernel
theorem d_La_law_1028 : decode code 1028 = .ok (.istore 5, 2) := by decide +kernel
theorem d_La_law_1030 : decode code 1030 = .ok (.aload_n 2, 1) := by decide +kernel
theorem d_La_law_1031 : decode code 1031 = .ok (.aload_n 0, 1) := by decide +kernel
theorem d_La_law_1032 : decode code 1032 = .ok (.iload 4, 2) := by decide +kernel
theorem d_La_law_1034 : decode code 1034 = .ok (.iconst 1, 1) := by decide +kernel
theorem d_La_law_1035 : decode code 1035 = .ok (.iadd, 1) := by decide +kernel
theorem d_La_law_1036 : decode code 1036 = .ok (.iaload, 1) := by decide +kernel
theorem d_La_law_1037 : decode code 1037 = .ok (.aload_n 0, 1) := by decide +kernel
theorem d_La_law_1038 : decode code 1038 = .ok (.iload 4, 2) := by decide +kernel
theorem d_La_law_1040 : decode code 1040 = .ok (.iconst 2, 1) := by decide +kernel
theorem d_La_law_1041 : decode code 1041 = .ok (.iadd, 1) := by decide +kernel
theorem d_La_law_1042 : decode code 1042 = .ok (.iaload, 1) := by decide +kernel
theorem d_La_law_1043 : decode code 1043 = .ok (.invokevirtual 140, 3) := by decide +kernel
theorem d_La_law_1046 : decode code 1046 = .ok (.aload_n 2, 1) := by decide +kernel
theorem d_La_law_1047 : decode code 1047 = .ok (.invokevirtual 92, 3) := by decide +kernel
theorem d_La_law_1050 : decode code 1050 = .ok (.iload 5, 2) := by decide +kernel
theorem d_La_law_1052 : decode code 1052 = .ok (.if_icmp .eq 5, 3) := by decide +kernel
theorem d_La_law_1055 : decode code 1055 = .ok (.iconst 0, 1) := by decide +kernel
theorem d_La_law_1056 : decode code 1056 = .ok (.ireturn, 1) := by decide +kernel
theorem d_La_law_1057 : decode code 1057 = .ok (.goto 306, 3) := by decide +kernel
theorem d_La_law_1060 : decode code 1060 = .ok (.aload_n 1, 1) := by decide +kernel
theorem d_La_law_1061 : decode code 1061 = .ok (.aload_n 0, 1) := by decide +kernel
theorem d_La_law_1062 : decode code 1062 = .ok (.iload 4, 2) := by decide +kernel
theorem d_La_law_1064 : decode code 1064 = .ok (.iconst 1, 1) := by decide +kernel
theorem d_La_law_1065 : decode code 1065 = .ok (.iadd, 1) := by decide +kernel
theorem d_La_law_1066 : decode code 1066 = .ok (.iaload, 1) := by decide +kernel
theorem d_La_law_1067 : decode code 1067 = .ok (.aload_n 0, 1) := by decide +kernel
theorem d_La_law_1068 : decode code 1068 = .ok (.iload 4, 2) := by decide +kernel
theorem d_La_law_1070 : decode code 1070 = .ok (.iconst 2, 1) := by decide +kernel
theorem d_La_law_1071 : decode code 1071 = .ok (.iadd, 1) := by decide +kernel
theorem d_La_law_1072 : decode code 1072 = .ok (.iaload, 1) := by decide +kernel
theorem d_La_law_1073 : decode code 1073 = .ok (.aload_n 0, 1) := by decide +kernel
theorem d_La_law_1074 : decode code 1074 = .ok (.iload 4, 2) := by decide +kernel
theorem d_La_law_1076 : decode code 1076 = .ok (.iconst 3, 1) := by decide +kernel
theorem d_La_law_1077 : decode code 1077 = .ok (.iadd, 1) := by decide +kernel
theorem d_La_law_1078 : decode code 1078 = .ok (.iaload, 1) := by decide +kernel
theorem d_La_law_1079 : decode code 1079 = .ok (.aload_n 0, 1) := by decide +kernel
theorem d_La_law_1080 : decode code 1080 = .ok (.iload 4, 2) := by decide +kernel
theorem d_La_law_1082 : decode code 1082 = .ok (.iconst 4, 1) := by decide +kernel
theorem d_La_law_1083 : decode code 1083 = .ok (.iadd, 1) := by decide +kernel
theorem d_La_law_1084 : decode code 1084 = .ok (.iaload, 1) := by decide +kernel
theorem d_La_law_1085 : decode code 1085 = .ok (.aload_n 0, 1) := by decide +kernel
theorem d_La_law_1086 : decode code 1086 = .ok (.iload 4, 2) := by decide +kernel
theorem d_La_law_1088 : decode code 1088 = .ok (.iconst 5, 1) := by decide +kernel
theorem d_La_law_1089 : decode code 1089 = .ok (.iadd, 1) := by decide +kernel
theorem d_La_law_1090 : decode code 1090 = .ok (.iaload, 1) := by decide +kernel
theorem d_La_law_1091 : decode code 1091 = .ok (.aload_n 0, 1) := by decide +kernel
theorem d_La_law_1092 : decode code 1092 = .ok (.iload 4, 2) := by decide +kernel
theorem d_La_law_1094 : decode code 1094 = .ok (.bipush 6, 2) := by decide +kernel
theorem d_La_law_1096 : decode code 1096 = .ok (.iadd, 1) := by decide +kernel
theorem d_La_law_1097 : decode code 1097 = .ok (.iaload, 1) := by decide +kernel
theorem d_La_law_1098 : decode code 1098 = .ok (.aload_n 3, 1) := by decide +kernel
theorem d_La_law_1099 : decode code 1099 = .ok (.invokestatic 141, 3) := by decide +kernel
theorem d_La_law_1102 : decode code 1102 = .ok (.istore 5, 2) := by decide +kernel
theorem d_La_law_1104 : decode code 1104 = .ok (.aload_n 2, 1) := by decide +kernel
theorem d_La_law_1105 : decode code 1105 = .ok (.aload_n 0, 1) := by decide +kernel
theorem d_La_law_1106 : decode code 1106 = .ok (.iload 4, 2) := by decide +kernel
theorem d_La_law_1108 : decode code 1108 = .ok (.iconst 1, 1) := by decide +kernel
theorem d_La_law_1109 : decode code 1109 = .ok (.iadd, 1) := by decide +kernel
theorem d_La_law_1110 : decode code 1110 = .ok (.iaload, 1) := by decide +kernel
theorem d_La_law_1111 : decode code 1111 = .ok (.aload_n 0, 1) := by decide +kernel
theorem d_La_law_1112 : decode code 1112 = .ok (.iload 4, 2) := by decide +kernel
theorem d_La_law_1114 : decode code 1114 = .ok (.iconst 2, 1) := by decide +kernel
theorem d_La_law_1115 : decode code 1115 = .ok (.iadd, 1) := by decide +kernel
theorem d_La_law_1116 : decode code 1116 = .ok (.iaload, 1) := by decide +kernel
theorem d_La_law_1117 : decode code 1117 = .ok (.aload_n 0, 1) := by decide +kernel
theorem d_La_law_1118 : decode code 1118 = .ok (.iload 4, 2) := by decide +kernel
theorem d_La_law_1120 : decode code 1120 = .ok (.iconst 3, 1) := by decide +kernel
theorem d_La_law_1121 : decode code 1121 = .ok (.iadd, 1) := by decide +kernel
theorem d_La_law_1122 : decode code 1122 = .ok (.iaload, 1) := by decide +kernel
theorem d_La_law_1123 : decode code 1123 = .ok (.aload_n 0, 1) := by decide +kernel
theorem d_La_law_1124 : decode code 1124 = .ok (.iload 4, 2) := by decide +kernel
theorem d_La_law_1126 : decode code 1126 = .ok (.iconst 4, 1) := by decide +kernel
theorem d_La_law_1127 : decode code 1127 = .ok (.iadd, 1) := by decide +kernel
theorem d_La_law_1128 : decode code 1128 = .ok (.iaload, 1) := by decide +kernel
theorem d_La_law_1129 : decode code 1129 = .ok (.aload_n 0, 1) := by decide +kernel
theorem d_La_law_1130 : decode code 1130 = .ok (.iload 4, 2) := by decide +kernel
theorem d_La_law_1132 : decode code 1132 = .ok (.iconst 5, 1) := by decide +kernel
theorem d_La_law_1133 : decode code 1133 = .ok (.iadd, 1) := by decide +kernel
theorem d_La_law_1134 : decode code 1134 = .ok (.iaload, 1) := by decide +kernel
theorem d_La_law_1135 : decode code 1135 = .ok (.aload_n 0, 1) := by decide +kernel
theorem d_La_law_1136 : decode code 1136 = .ok (.iload 4, 2) := by decide +kernel
theorem d_La_law_1138 : decode code 1138 = .ok (.bipush 6, 2) := by decide +kernel
theorem d_La_law_1140 : decode code 1140 = .ok (.iadd, 1) := by decide +kernel
theorem d_La_law_1141 : decode code 1141 = .ok (.iaload, 1) := by decide +kernel
theorem d_La_law_1142 : decode code 1142 = .ok (.invokevirtual 144, 3) := by decide +kernel
theorem d_La_law_1145 : decode code 1145 = .ok (.istore 6, 2) := by decide +kernel
theorem d_La_law_1147 : decode code 1147 = .ok (.aload_n 2, 1) := by decide +kernel
theorem d_La_law_1148 : decode code 1148 = .ok (.invokevirtual 92, 3) := by decide +kernel
theorem d_La_law_1151 : decode code 1151 = .ok (.iload 5, 2) := by decide +kernel
theorem d_La_law_1153 : decode code 1153 = .ok (.if_icmp .eq 5, 3) := by decide +kernel
theorem d_La_law_1156 : decode code 1156 = .ok (.iconst 0, 1) := by decide +kernel
theorem d_La_law_1157 : decode code 1157 = .ok (.ireturn, 1) := by decide +kernel
theorem d_La_law_1158 : decode code 1158 = .ok (.iload 5, 2) := by decide +kernel
theorem d_La_law_1160 : decode code 1160 = .ok (.ifCond .ne 15, 3) := by decide +kernel
theorem d_La_law_1163 : decode code 1163 = .ok (.aload_n 3, 1) := by decide +kernel
theorem d_La_law_1164 : decode code 1164 = .ok (.iconst 0, 1) := by decide +kernel
theorem d_La_law_1165 : decode code 1165 = .ok (.laload, 1) := by decide +kernel
theorem d_La_law_1166 : decode code 1166 = .ok (.iload 6, 2) := by decide +kernel
theorem d_La_law_1168 : decode code 1168 = .ok (.i2l, 1) := by decide +kernel
theorem d_La_law_1169 : decode code 1169 = .ok (.lcmp, 1) := by decide +kernel
theorem d_La_law_1170 : decode code 1170 = .ok (.ifCond .eq 5, 3) := by decide +kernel
theorem d_La_law_1173 : decode code 1173 = .ok (.iconst 0, 1) := by decide +kernel
theorem d_La_law_1174 : decode code 1174 = .ok (.ireturn, 1) := by decide +kernel
theorem d_La_law_1175 : decode code 1175 = .ok (.goto 188, 3) := by decide +kernel
theorem d_La_law_1178 : decode code 1178 = .ok (.aload_n 1, 1) := by decide +kernel
theorem d_La_law_1179 : decode code 1179 = .ok (.invokevirtual 145, 3) := by decide +kernel
theorem d_La_law_1182 : decode code 1182 = .ok (.aload_n 2, 1) := by decide +kernel
theorem d_La_law_1183 : decode code 1183 = .ok (.invokevirtual 148, 3) := by decide +kernel
theorem d_La_law_1186 : decode code 1186 = .ok (.goto 177, 3) := by decide +kernel
theorem d_La_law_1189 : decode code 1189 = .ok (.aload_n 1, 1) := by decide +kernel
theorem d_La_law_1190 : decode code 1190 = .ok (.aload_n 0, 1) := by decide +kernel
theorem d_La_law_1191 : decode code 1191 = .ok (.iload 4, 2) := by decide +kernel
theorem d_La_law_1193 : decode code 1193 = .ok (.iconst 1, 1) := by decide +kernel
theorem d_La_law_1194 : decode code 1194 = .ok (.iadd, 1) := by decide +kernel
theorem d_La_law_1195 : decode code 1195 = .ok (.iaload, 1) := by decide +kernel
theorem d_La_law_1196 : decode code 1196 = .ok (.aload_n 3, 1) := by decide +kernel
theorem d_La_law_1197 : decode code 1197 = .ok (.invokestatic 149, 3) := by decide +kernel
theorem d_La_law_1200 : decode code 1200 = .ok (.istore 5, 2) := by decide +kernel
theorem d_La_law_1202 : decode code 1202 = .ok (.aload_n 2, 1) := by decide +kernel
theorem d_La_law_1203 : decode code 1203 = .ok (.aload_n 0, 1) := by decide +kernel
theorem d_La_law_1204 : decode code 1204 = .ok (.iload 4, 2) := by decide +kernel
theorem d_La_law_1206 : decode code 1206 = .ok (.iconst 1, 1) := by decide +kernel
theorem d_La_law_1207 : decode code 1207 = .ok (.iadd, 1) := by decide +kernel
theorem d_La_law_1208 : decode code 1208 = .ok (.iaload, 1) := by decide +kernel
theorem d_La_law_1209 : decode code 1209 = .ok (.invokevirtual 151, 3) := by decide +kernel
theorem d_La_law_1212 : decode code 1212 = .ok (.istore 6, 2) := by decide +kernel
theorem d_La_law_1214 : decode code 1214 = .ok (.aload_n 2, 1) := by decide +kernel
theorem d_La_law_1215 : decode code 1215 = .ok (.invokevirtual 92, 3) := by decide +kernel
theorem d_La_law_1218 : decode code 1218 = .ok (.iload 5, 2) := by decide +kernel
theorem d_La_law_1220 : decode code 1220 = .ok (.if_icmp .eq 5, 3) := by decide +kernel
theorem d_La_law_1223 : decode code 1223 = .ok (.iconst 0, 1) := by decide +kernel
theorem d_La_law_1224 : decode code 1224 = .ok (.ireturn, 1) := by decide +kernel
theorem d_La_law_1225 : decode code 1225 = .ok (.iload 5, 2) := by decide +kernel
theorem d_La_law_1227 : decode code 1227 = .ok (.ifCond .ne 22, 3) := by decide +kernel
theorem d_La_law_1230 : decode code 1230 = .ok (.aload_n 3, 1) := by decide +kernel
theorem d_La_law_1231 : decode code 1231 = .ok (.iconst 0, 1) := by decide +kernel
theorem d_La_law_1232 : decode code 1232 = .ok (.laload, 1) := by decide +kernel
theorem d_La_law_1233 : decode code 1233 = .ok (.iload 6, 2) := by decide +kernel
theorem d_La_law_1235 : decode code 1235 = .ok (.ifCond .eq 7, 3) := by decide +kernel
theorem d_La_law_1238 : decode code 1238 = .ok (.lconst 1, 1) := by decide +kernel
theorem d_La_law_1239 : decode code 1239 = .ok (.goto 4, 3) := by decide +kernel
theorem d_La_law_1242 : decode code 1242 = .ok (.lconst 0, 1) := by decide +kernel
theorem d_La_law_1243 : decode code 1243 = .ok (.lcmp, 1) := by decide +kernel
theorem d_La_law_1244 : decode code 1244 = .ok (.ifCond .eq 5, 3) := by decide +kernel
theorem d_La_law_1247 : decode code 1247 = .ok (.iconst 0, 1) := by decide +kernel
theorem d_La_law_1248 : decode code 1248 = .ok (.ireturn, 1) := by decide +kernel
theorem d_La_law_1249 : decode code 1249 = .ok (.goto 114, 3) := by decide +kernel
theorem d_La_law_1252 : decode code 1252 = .ok (.aload_n 1, 1) := by decide +kernel
theorem d_La_law_1253 : decode code 1253 = .ok (.aload_n 0, 1) := by decide +kernel
theorem d_La_law_1254 : decode code 1254 = .ok (.iload 4, 2) := by decide +kernel
theorem d_La_law_1256 : decode code 1256 = .ok (.iconst 1, 1) := by decide +kernel
theorem d_La_law_1257 : decode code 1257 = .ok (.iadd, 1) := by decide +kernel
theorem d_La_law_1258 : decode code 1258 = .ok (.iaload, 1) := by decide +kernel
theorem d_La_law_1259 : decode code 1259 = .ok (.aload_n 3, 1) := by decide +kernel
theorem d_La_law_1260 : decode code 1260 = .ok (.invokestatic 152, 3) := by decide +kernel
theorem d_La_law_1263 : decode code 1263 = .ok (.istore 5, 2) := by decide +kernel
theorem d_La_law_1265 : decode code 1265 = .ok (.aload_n 2, 1) := by decide +kernel
theorem d_La_law_1266 : decode code 1266 = .ok (.aload_n 0, 1) := by decide +kernel
theorem d_La_law_1267 : decode code 1267 = .ok (.iload 4, 2) := by decide +kernel
theorem d_La_law_1269 : decode code 1269 = .ok (.iconst 1, 1) := by decide +kernel
theorem d_La_law_1270 : decode code 1270 = .ok (.iadd, 1) := by decide +kernel
theorem d_La_law_1271 : decode code 1271 = .ok (.iaload, 1) := by decide +kernel
theorem d_La_law_1272 : decode code 1272 = .ok (.invokevirtual 154, 3) := by decide +kernel
theorem d_La_law_1275 : decode code 1275 = .ok (.istore 6, 2) := by decide +kernel
theorem d_La_law_1277 : decode code 1277 = .ok (.aload_n 2, 1) := by decide +kernel
theorem d_La_law_1278 : decode code 1278 = .ok (.invokevirtual 92, 3) := by decide +kernel
theorem d_La_law_1281 : decode code 1281 = .ok (.iload 5, 2) := by decide +kernel
theorem d_La_law_1283 : decode code 1283 = .ok (.if_icmp .eq 5, 3) := by decide +kernel
theorem d_La_law_1286 : decode code 1286 = .ok (.iconst 0, 1) := by decide +kernel
theorem d_La_law_1287 : decode code 1287 = .ok (.ireturn, 1) := by decide +kernel
theorem d_La_law_1288 : decode code 1288 = .ok (.iload 5, 2) := by decide +kernel
theorem d_La_law_1290 : decode code 1290 = .ok (.ifCond .ne 15, 3) := by decide +kernel
theorem d_La_law_1293 : decode code 1293 = .ok (.aload_n 3, 1) := by decide +kernel
theorem d_La_law_1294 : decode code 1294 = .ok (.iconst 0, 1) := by decide +kernel
theorem d_La_law_1295 : decode code 1295 = .ok (.laload, 1) := by decide +kernel
theorem d_La_law_1296 : decode code 1296 = .ok (.iload 6, 2) := by decide +kernel
theorem d_La_law_1298 : decode code 1298 = .ok (.i2l, 1) := by decide +kernel
theorem d_La_law_1299 : decode code 1299 = .ok (.lcmp, 1) := by decide +kernel
theorem d_La_law_1300 : decode code 1300 = .ok (.ifCond .eq 5, 3) := by decide +kernel
theorem d_La_law_1303 : decode code 1303 = .ok (.iconst 0, 1) := by decide +kernel
theorem d_La_law_1304 : decode code 1304 = .ok (.ireturn, 1) := by decide +kernel
theorem d_La_law_1305 : decode code 1305 = .ok (.goto 58, 3) := by decide +kernel
theorem d_La_law_1308 : decode code 1308 = .ok (.aload_n 1, 1) := by decide +kernel
theorem d_La_law_1309 : decode code 1309 = .ok (.aload_n 0, 1) := by decide +kernel
theorem d_La_law_1310 : decode code 1310 = .ok (.iload 4, 2) := by decide +kernel
theorem d_La_law_1312 : decode code 1312 = .ok (.iconst 1, 1) := by decide +kernel
theorem d_La_law_1313 : decode code 1313 = .ok (.iadd, 1) := by decide +kernel
theorem d_La_law_1314 : decode code 1314 = .ok (.iaload, 1) := by decide +kernel
theorem d_La_law_1315 : decode code 1315 = .ok (.aload_n 3, 1) := by decide +kernel
theorem d_La_law_1316 : decode code 1316 = .ok (.invokestatic 155, 3) := by decide +kernel
theorem d_La_law_1319 : decode code 1319 = .ok (.istore 5, 2) := by decide +kernel
theorem d_La_law_1321 : decode code 1321 = .ok (.aload_n 2, 1) := by decide +kernel
theorem d_La_law_1322 : decode code 1322 = .ok (.aload_n 0, 1) := by decide +kernel
theorem d_La_law_1323 : decode code 1323 = .ok (.iload 4, 2) := by decide +kernel
theorem d_La_law_1325 : decode code 1325 = .ok (.iconst 1, 1) := by decide +kernel
theorem d_La_law_1326 : decode code 1326 = .ok (.iadd, 1) := by decide +kernel
theorem d_La_law_1327 : decode code 1327 = .ok (.iaload, 1) := by decide +kernel
theorem d_La_law_1328 : decode code 1328 = .ok (.invokevirtual 157, 3) := by decide +kernel
theorem d_La_law_1331 : decode code 1331 = .ok (.lstore 6, 2) := by decide +kernel
theorem d_La_law_1333 : decode code 1333 = .ok (.aload_n 2, 1) := by decide +kernel
theorem d_La_law_1334 : decode code 1334 = .ok (.invokevirtual 92, 3) := by decide +kernel
theorem d_La_law_1337 : decode code 1337 = .ok (.iload 5, 2) := by decide +kernel
theorem d_La_law_1339 : decode code 1339 = .ok (.if_icmp .eq 5, 3) := by decide +kernel
theorem d_La_law_1342 : decode code 1342 = .ok (.iconst 0, 1) := by decide +kernel
theorem d_La_law_1343 : decode code 1343 = .ok (.ireturn, 1) := by decide +kernel
theorem d_La_law_1344 : decode code 1344 = .ok (.iload 5, 2) := by decide +kernel
theorem d_La_law_1346 : decode code 1346 = .ok (.ifCond .ne 14, 3) := by decide +kernel
theorem d_La_law_1349 : decode code 1349 = .ok (.aload_n 3, 1) := by decide +kernel
theorem d_La_law_1350 : decode code 1350 = .ok (.iconst 0, 1) := by decide +kernel
theorem d_La_law_1351 : decode code 1351 = .ok (.laload, 1) := by decide +kernel
theorem d_La_law_1352 : decode code 1352 = .ok (.lload 6, 2) := by decide +kernel
theorem d_La_law_1354 : decode code 1354 = .ok (.lcmp, 1) := by decide +kernel
theorem d_La_law_1355 : decode code 1355 = .ok (.ifCond .eq 5, 3) := by decide +kernel
theorem d_La_law_1358 : decode code 1358 = .ok (.iconst 0, 1) := by decide +kernel
theorem d_La_law_1359 : decode code 1359 = .ok (.ireturn, 1) := by decide +kernel
theorem d_La_law_1360 : decode code 1360 = .ok (.goto 3, 3) := by decide +kernel
theorem d_La_law_1363 : decode code 1363 = .ok (.iinc 4 7, 3) := by decide +kernel
theorem d_La_law_1366 : decode code 1366 = .ok (.goto (-1343), 3) := by decide +kernel
theorem d_La_law_1369 : decode code 1369 = .ok (.iconst 1, 1) := by decide +kernel
theorem d_La_law_1370 : decode code 1370 = .ok (.ireturn, 1) := by decide +kernel
