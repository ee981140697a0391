/-! The law's instructions. Printed by lawgen.py. -/
theorem ld_0 : decode code 0 = .ok (.new 8, 3) := by decide +kernel
theorem ld_3 : decode code 3 = .ok (.dup, 1) := by decide +kernel
theorem ld_4 : decode code 4 = .ok (.invokespecial 36, 3) := by decide +kernel
theorem ld_7 : decode code 7 = .ok (.astore_n 1, 1) := by decide +kernel
theorem ld_8 : decode code 8 = .ok (.new 37, 3) := by decide +kernel
theorem ld_11 : decode code 11 = .ok (.dup, 1) := by decide +kernel
theorem ld_12 : decode code 12 = .ok (.invokespecial 39, 3) := by decide +kernel
theorem ld_15 : decode code 15 = .ok (.astore_n 2, 1) := by decide +kernel
theorem ld_16 : decode code 16 = .ok (.iconst 1, 1) := by decide +kernel
theorem ld_17 : decode code 17 = .ok (.newarray .long, 2) := by decide +kernel
theorem ld_19 : decode code 19 = .ok (.astore_n 3, 1) := by decide +kernel
theorem ld_20 : decode code 20 = .ok (.iconst 0, 1) := by decide +kernel
theorem ld_21 : decode code 21 = .ok (.istore 4, 2) := by decide +kernel
theorem ld_23 : decode code 23 = .ok (.iload 4, 2) := by decide +kernel
theorem ld_25 : decode code 25 = .ok (.aload_n 0, 1) := by decide +kernel
theorem ld_26 : decode code 26 = .ok (.arraylength, 1) := by decide +kernel
theorem ld_27 : decode code 27 = .ok (.iconst 4, 1) := by decide +kernel
theorem ld_28 : decode code 28 = .ok (.isub, 1) := by decide +kernel
theorem ld_29 : decode code 29 = .ok (.if_icmp .gt 751, 3) := by decide +kernel
theorem ld_32 : decode code 32 = .ok (.aload_n 0, 1) := by decide +kernel
theorem ld_33 : decode code 33 = .ok (.iload 4, 2) := by decide +kernel
theorem ld_35 : decode code 35 = .ok (.iaload, 1) := by decide +kernel
theorem ld_36 : decode code 36 = .ok (.bipush 15, 2) := by decide +kernel
theorem ld_38 : decode code 38 = .ok (.iand, 1) := by decide +kernel
theorem ld_39 : decode code 39 = .ok (.tableswitch 735 0 15 #[77, 133, 201, 281, 349, 405, 461, 474, 499, 524, 549, 562, 599, 636, 661, 698], 77) := by decide +kernel
theorem ld_116 : decode code 116 = .ok (.aload_n 1, 1) := by decide +kernel
theorem ld_117 : decode code 117 = .ok (.aload_n 0, 1) := by decide +kernel
theorem ld_118 : decode code 118 = .ok (.iload 4, 2) := by decide +kernel
theorem ld_120 : decode code 120 = .ok (.iconst 1, 1) := by decide +kernel
theorem ld_121 : decode code 121 = .ok (.iadd, 1) := by decide +kernel
theorem ld_122 : decode code 122 = .ok (.iaload, 1) := by decide +kernel
theorem ld_123 : decode code 123 = .ok (.aload_n 3, 1) := by decide +kernel
theorem ld_124 : decode code 124 = .ok (.invokestatic 40, 3) := by decide +kernel
theorem ld_127 : decode code 127 = .ok (.istore 5, 2) := by decide +kernel
theorem ld_129 : decode code 129 = .ok (.aload_n 2, 1) := by decide +kernel
theorem ld_130 : decode code 130 = .ok (.aload_n 0, 1) := by decide +kernel
theorem ld_131 : decode code 131 = .ok (.iload 4, 2) := by decide +kernel
theorem ld_133 : decode code 133 = .ok (.iconst 1, 1) := by decide +kernel
theorem ld_134 : decode code 134 = .ok (.iadd, 1) := by decide +kernel
theorem ld_135 : decode code 135 = .ok (.iaload, 1) := by decide +kernel
theorem ld_136 : decode code 136 = .ok (.invokevirtual 45, 3) := by decide +kernel
theorem ld_139 : decode code 139 = .ok (.istore 6, 2) := by decide +kernel
theorem ld_141 : decode code 141 = .ok (.aload_n 2, 1) := by decide +kernel
theorem ld_142 : decode code 142 = .ok (.invokevirtual 46, 3) := by decide +kernel
theorem ld_145 : decode code 145 = .ok (.iload 5, 2) := by decide +kernel
theorem ld_147 : decode code 147 = .ok (.if_icmp .eq 5, 3) := by decide +kernel
theorem ld_150 : decode code 150 = .ok (.iconst 0, 1) := by decide +kernel
theorem ld_151 : decode code 151 = .ok (.ireturn, 1) := by decide +kernel
theorem ld_152 : decode code 152 = .ok (.iload 5, 2) := by decide +kernel
theorem ld_154 : decode code 154 = .ok (.ifCond .ne 15, 3) := by decide +kernel
theorem ld_157 : decode code 157 = .ok (.aload_n 3, 1) := by decide +kernel
theorem ld_158 : decode code 158 = .ok (.iconst 0, 1) := by decide +kernel
theorem ld_159 : decode code 159 = .ok (.laload, 1) := by decide +kernel
theorem ld_160 : decode code 160 = .ok (.iload 6, 2) := by decide +kernel
theorem ld_162 : decode code 162 = .ok (.i2l, 1) := by decide +kernel
theorem ld_163 : decode code 163 = .ok (.lcmp, 1) := by decide +kernel
theorem ld_164 : decode code 164 = .ok (.ifCond .eq 5, 3) := by decide +kernel
theorem ld_167 : decode code 167 = .ok (.iconst 0, 1) := by decide +kernel
theorem ld_168 : decode code 168 = .ok (.ireturn, 1) := by decide +kernel
theorem ld_169 : decode code 169 = .ok (.goto 605, 3) := by decide +kernel
theorem ld_172 : decode code 172 = .ok (.aload_n 1, 1) := by decide +kernel
theorem ld_173 : decode code 173 = .ok (.aload_n 0, 1) := by decide +kernel
theorem ld_174 : decode code 174 = .ok (.iload 4, 2) := by decide +kernel
theorem ld_176 : decode code 176 = .ok (.iconst 1, 1) := by decide +kernel
theorem ld_177 : decode code 177 = .ok (.iadd, 1) := by decide +kernel
theorem ld_178 : decode code 178 = .ok (.iaload, 1) := by decide +kernel
theorem ld_179 : decode code 179 = .ok (.aload_n 0, 1) := by decide +kernel
theorem ld_180 : decode code 180 = .ok (.iload 4, 2) := by decide +kernel
theorem ld_182 : decode code 182 = .ok (.iconst 2, 1) := by decide +kernel
theorem ld_183 : decode code 183 = .ok (.iadd, 1) := by decide +kernel
theorem ld_184 : decode code 184 = .ok (.iaload, 1) := by decide +kernel
theorem ld_185 : decode code 185 = .ok (.aload_n 3, 1) := by decide +kernel
theorem ld_186 : decode code 186 = .ok (.invokestatic 50, 3) := by decide +kernel
theorem ld_189 : decode code 189 = .ok (.istore 5, 2) := by decide +kernel
theorem ld_191 : decode code 191 = .ok (.aload_n 2, 1) := by decide +kernel
theorem ld_192 : decode code 192 = .ok (.aload_n 0, 1) := by decide +kernel
theorem ld_193 : decode code 193 = .ok (.iload 4, 2) := by decide +kernel
theorem ld_195 : decode code 195 = .ok (.iconst 1, 1) := by decide +kernel
theorem ld_196 : decode code 196 = .ok (.iadd, 1) := by decide +kernel
theorem ld_197 : decode code 197 = .ok (.iaload, 1) := by decide +kernel
theorem ld_198 : decode code 198 = .ok (.aload_n 0, 1) := by decide +kernel
theorem ld_199 : decode code 199 = .ok (.iload 4, 2) := by decide +kernel
theorem ld_201 : decode code 201 = .ok (.iconst 2, 1) := by decide +kernel
theorem ld_202 : decode code 202 = .ok (.iadd, 1) := by decide +kernel
theorem ld_203 : decode code 203 = .ok (.iaload, 1) := by decide +kernel
theorem ld_204 : decode code 204 = .ok (.invokevirtual 53, 3) := by decide +kernel
theorem ld_207 : decode code 207 = .ok (.istore 6, 2) := by decide +kernel
theorem ld_209 : decode code 209 = .ok (.aload_n 2, 1) := by decide +kernel
theorem ld_210 : decode code 210 = .ok (.invokevirtual 46, 3) := by decide +kernel
theorem ld_213 : decode code 213 = .ok (.iload 5, 2) := by decide +kernel
theorem ld_215 : decode code 215 = .ok (.if_icmp .eq 5, 3) := by decide +kernel
theorem ld_218 : decode code 218 = .ok (.iconst 0, 1) := by decide +kernel
theorem ld_219 : decode code 219 = .ok (.ireturn, 1) := by decide +kernel
theorem ld_220 : decode code 220 = .ok (.iload 5, 2) := by decide +kernel
theorem ld_222 : decode code 222 = .ok (.ifCond .ne 15, 3) := by decide +kernel
theorem ld_225 : decode code 225 = .ok (.aload_n 3, 1) := by decide +kernel
theorem ld_226 : decode code 226 = .ok (.iconst 0, 1) := by decide +kernel
theorem ld_227 : decode code 227 = .ok (.laload, 1) := by decide +kernel
theorem ld_228 : decode code 228 = .ok (.iload 6, 2) := by decide +kernel
theorem ld_230 : decode code 230 = .ok (.i2l, 1) := by decide +kernel
theorem ld_231 : decode code 231 = .ok (.lcmp, 1) := by decide +kernel
theorem ld_232 : decode code 232 = .ok (.ifCond .eq 5, 3) := by decide +kernel
theorem ld_235 : decode code 235 = .ok (.iconst 0, 1) := by decide +kernel
theorem ld_236 : decode code 236 = .ok (.ireturn, 1) := by decide +kernel
theorem ld_237 : decode code 237 = .ok (.goto 537, 3) := by decide +kernel
theorem ld_240 : decode code 240 = .ok (.aload_n 1, 1) := by decide +kernel
theorem ld_241 : decode code 241 = .ok (.aload_n 0, 1) := by decide +kernel
theorem ld_242 : decode code 242 = .ok (.iload 4, 2) := by decide +kernel
theorem ld_244 : decode code 244 = .ok (.iconst 1, 1) := by decide +kernel
theorem ld_245 : decode code 245 = .ok (.iadd, 1) := by decide +kernel
theorem ld_246 : decode code 246 = .ok (.iaload, 1) := by decide +kernel
theorem ld_247 : decode code 247 = .ok (.aload_n 0, 1) := by decide +kernel
theorem ld_248 : decode code 248 = .ok (.iload 4, 2) := by decide +kernel
theorem ld_250 : decode code 250 = .ok (.iconst 2, 1) := by decide +kernel
theorem ld_251 : decode code 251 = .ok (.iadd, 1) := by decide +kernel
theorem ld_252 : decode code 252 = .ok (.iaload, 1) := by decide +kernel
theorem ld_253 : decode code 253 = .ok (.aload_n 0, 1) := by decide +kernel
theorem ld_254 : decode code 254 = .ok (.iload 4, 2) := by decide +kernel
theorem ld_256 : decode code 256 = .ok (.iconst 3, 1) := by decide +kernel
theorem ld_257 : decode code 257 = .ok (.iadd, 1) := by decide +kernel
theorem ld_258 : decode code 258 = .ok (.iaload, 1) := by decide +kernel
theorem ld_259 : decode code 259 = .ok (.aload_n 3, 1) := by decide +kernel
theorem ld_260 : decode code 260 = .ok (.invokestatic 54, 3) := by decide +kernel
theorem ld_263 : decode code 263 = .ok (.istore 5, 2) := by decide +kernel
theorem ld_265 : decode code 265 = .ok (.aload_n 2, 1) := by decide +kernel
theorem ld_266 : decode code 266 = .ok (.aload_n 0, 1) := by decide +kernel
theorem ld_267 : decode code 267 = .ok (.iload 4, 2) := by decide +kernel
theorem ld_269 : decode code 269 = .ok (.iconst 1, 1) := by decide +kernel
theorem ld_270 : decode code 270 = .ok (.iadd, 1) := by decide +kernel
theorem ld_271 : decode code 271 = .ok (.iaload, 1) := by decide +kernel
theorem ld_272 : decode code 272 = .ok (.aload_n 0, 1) := by decide +kernel
theorem ld_273 : decode code 273 = .ok (.iload 4, 2) := by decide +kernel
theorem ld_275 : decode code 275 = .ok (.iconst 2, 1) := by decide +kernel
theorem ld_276 : decode code 276 = .ok (.iadd, 1) := by decide +kernel
theorem ld_277 : decode code 277 = .ok (.iaload, 1) := by decide +kernel
theorem ld_278 : decode code 278 = .ok (.aload_n 0, 1) := by decide +kernel
theorem ld_279 : decode code 279 = .ok (.iload 4, 2) := by decide +kernel
theorem ld_281 : decode code 281 = .ok (.iconst 3, 1) := by decide +kernel
theorem ld_282 : decode code 282 = .ok (.iadd, 1) := by decide +kernel
theorem ld_283 : decode code 283 = .ok (.iaload, 1) := by decide +kernel
theorem ld_284 : decode code 284 = .ok (.invokevirtual 57, 3) := by decide +kernel
theorem ld_287 : decode code 287 = .ok (.istore 6, 2) := by decide +kernel
theorem ld_289 : decode code 289 = .ok (.aload_n 2, 1) := by decide +kernel
theorem ld_290 : decode code 290 = .ok (.invokevirtual 46, 3) := by decide +kernel
theorem ld_293 : decode code 293 = .ok (.iload 5, 2) := by decide +kernel
theorem ld_295 : decode code 295 = .ok (.if_icmp .eq 5, 3) := by decide +kernel
theorem ld_298 : decode code 298 = .ok (.iconst 0, 1) := by decide +kernel
theorem ld_299 : decode code 299 = .ok (.ireturn, 1) := by decide +kernel
theorem ld_300 : decode code 300 = .ok (.iload 5, 2) := by decide +kernel
theorem ld_302 : decode code 302 = .ok (.ifCond .ne 15, 3) := by decide +kernel
theorem ld_305 : decode code 305 = .ok (.aload_n 3, 1) := by decide +kernel
theorem ld_306 : decode code 306 = .ok (.iconst 0, 1) := by decide +kernel
theorem ld_307 : decode code 307 = .ok (.laload, 1) := by decide +kernel
theorem ld_308 : decode code 308 = .ok (.iload 6, 2) := by decide +kernel
theorem ld_310 : decode code 310 = .ok (.i2l, 1) := by decide +kernel
theorem ld_311 : decode code 311 = .ok (.lcmp, 1) := by decide +kernel
theorem ld_312 : decode code 312 = .ok (.ifCond .eq 5, 3) := by decide +kernel
theorem ld_315 : decode code 315 = .ok (.iconst 0, 1) := by decide +kernel
theorem ld_316 : decode code 316 = .ok (.ireturn, 1) := by decide +kernel
theorem ld_317 : decode code 317 = .ok (.goto 457, 3) := by decide +kernel
theorem ld_320 : decode code 320 = .ok (.aload_n 1, 1) := by decide +kernel
theorem ld_321 : decode code 321 = .ok (.aload_n 0, 1) := by decide +kernel
theorem ld_322 : decode code 322 = .ok (.iload 4, 2) := by decide +kernel
theorem ld_324 : decode code 324 = .ok (.iconst 1, 1) := by decide +kernel
theorem ld_325 : decode code 325 = .ok (.iadd, 1) := by decide +kernel
theorem ld_326 : decode code 326 = .ok (.iaload, 1) := by decide +kernel
theorem ld_327 : decode code 327 = .ok (.aload_n 0, 1) := by decide +kernel
theorem ld_328 : decode code 328 = .ok (.iload 4, 2) := by decide +kernel
theorem ld_330 : decode code 330 = .ok (.iconst 2, 1) := by decide +kernel
theorem ld_331 : decode code 331 = .ok (.iadd, 1) := by decide +kernel
theorem ld_332 : decode code 332 = .ok (.iaload, 1) := by decide +kernel
theorem ld_333 : decode code 333 = .ok (.aload_n 3, 1) := by decide +kernel
theorem ld_334 : decode code 334 = .ok (.invokestatic 58, 3) := by decide +kernel
theorem ld_337 : decode code 337 = .ok (.istore 5, 2) := by decide +kernel
theorem ld_339 : decode code 339 = .ok (.aload_n 2, 1) := by decide +kernel
theorem ld_340 : decode code 340 = .ok (.aload_n 0, 1) := by decide +kernel
theorem ld_341 : decode code 341 = .ok (.iload 4, 2) := by decide +kernel
theorem ld_343 : decode code 343 = .ok (.iconst 1, 1) := by decide +kernel
theorem ld_344 : decode code 344 = .ok (.iadd, 1) := by decide +kernel
theorem ld_345 : decode code 345 = .ok (.iaload, 1) := by decide +kernel
theorem ld_346 : decode code 346 = .ok (.aload_n 0, 1) := by decide +kernel
theorem ld_347 : decode code 347 = .ok (.iload 4, 2) := by decide +kernel
theorem ld_349 : decode code 349 = .ok (.iconst 2, 1) := by decide +kernel
theorem ld_350 : decode code 350 = .ok (.iadd, 1) := by decide +kernel
theorem ld_351 : decode code 351 = .ok (.iaload, 1) := by decide +kernel
theorem ld_352 : decode code 352 = .ok (.invokevirtual 60, 3) := by decide +kernel
theorem ld_355 : decode code 355 = .ok (.istore 6, 2) := by decide +kernel
theorem ld_357 : decode code 357 = .ok (.aload_n 2, 1) := by decide +kernel
theorem ld_358 : decode code 358 = .ok (.invokevirtual 46, 3) := by decide +kernel
theorem ld_361 : decode code 361 = .ok (.iload 5, 2) := by decide +kernel
theorem ld_363 : decode code 363 = .ok (.if_icmp .eq 5, 3) := by decide +kernel
theorem ld_366 : decode code 366 = .ok (.iconst 0, 1) := by decide +kernel
theorem ld_367 : decode code 367 = .ok (.ireturn, 1) := by decide +kernel
theorem ld_368 : decode code 368 = .ok (.iload 5, 2) := by decide +kernel
theorem ld_370 : decode code 370 = .ok (.ifCond .ne 15, 3) := by decide +kernel
theorem ld_373 : decode code 373 = .ok (.aload_n 3, 1) := by decide +kernel
theorem ld_374 : decode code 374 = .ok (.iconst 0, 1) := by decide +kernel
theorem ld_375 : decode code 375 = .ok (.laload, 1) := by decide +kernel
theorem ld_376 : decode code 376 = .ok (.iload 6, 2) := by decide +kernel
theorem ld_378 : decode code 378 = .ok (.i2l, 1) := by decide +kernel
theorem ld_379 : decode code 379 = .ok (.lcmp, 1) := by decide +kernel
theorem ld_380 : decode code 380 = .ok (.ifCond .eq 5, 3) := by decide +kernel
theorem ld_383 : decode code 383 = .ok (.iconst 0, 1) := by decide +kernel
theorem ld_384 : decode code 384 = .ok (.ireturn, 1) := by decide +kernel
theorem ld_385 : decode code 385 = .ok (.goto 389, 3) := by decide +kernel
theorem ld_388 : decode code 388 = .ok (.aload_n 1, 1) := by decide +kernel
theorem ld_389 : decode code 389 = .ok (.aload_n 0, 1) := by decide +kernel
theorem ld_390 : decode code 390 = .ok (.iload 4, 2) := by decide +kernel
theorem ld_392 : decode code 392 = .ok (.iconst 1, 1) := by decide +kernel
theorem ld_393 : decode code 393 = .ok (.iadd, 1) := by decide +kernel
theorem ld_394 : decode code 394 = .ok (.iaload, 1) := by decide +kernel
theorem ld_395 : decode code 395 = .ok (.aload_n 3, 1) := by decide +kernel
theorem ld_396 : decode code 396 = .ok (.invokestatic 61, 3) := by decide +kernel
theorem ld_399 : decode code 399 = .ok (.istore 5, 2) := by decide +kernel
theorem ld_401 : decode code 401 = .ok (.aload_n 2, 1) := by decide +kernel
theorem ld_402 : decode code 402 = .ok (.aload_n 0, 1) := by decide +kernel
theorem ld_403 : decode code 403 = .ok (.iload 4, 2) := by decide +kernel
theorem ld_405 : decode code 405 = .ok (.iconst 1, 1) := by decide +kernel
theorem ld_406 : decode code 406 = .ok (.iadd, 1) := by decide +kernel
theorem ld_407 : decode code 407 = .ok (.iaload, 1) := by decide +kernel
theorem ld_408 : decode code 408 = .ok (.invokevirtual 63, 3) := by decide +kernel
theorem ld_411 : decode code 411 = .ok (.istore 6, 2) := by decide +kernel
theorem ld_413 : decode code 413 = .ok (.aload_n 2, 1) := by decide +kernel
theorem ld_414 : decode code 414 = .ok (.invokevirtual 46, 3) := by decide +kernel
theorem ld_417 : decode code 417 = .ok (.iload 5, 2) := by decide +kernel
theorem ld_419 : decode code 419 = .ok (.if_icmp .eq 5, 3) := by decide +kernel
theorem ld_422 : decode code 422 = .ok (.iconst 0, 1) := by decide +kernel
theorem ld_423 : decode code 423 = .ok (.ireturn, 1) := by decide +kernel
theorem ld_424 : decode code 424 = .ok (.iload 5, 2) := by decide +kernel
theorem ld_426 : decode code 426 = .ok (.ifCond .ne 15, 3) := by decide +kernel
theorem ld_429 : decode code 429 = .ok (.aload_n 3, 1) := by decide +kernel
theorem ld_430 : decode code 430 = .ok (.iconst 0, 1) := by decide +kernel
theorem ld_431 : decode code 431 = .ok (.laload, 1) := by decide +kernel
theorem ld_432 : decode code 432 = .ok (.iload 6, 2) := by decide +kernel
theorem ld_434 : decode code 434 = .ok (.i2l, 1) := by decide +kernel
theorem ld_435 : decode code 435 = .ok (.lcmp, 1) := by decide +kernel
theorem ld_436 : decode code 436 = .ok (.ifCond .eq 5, 3) := by decide +kernel
theorem ld_439 : decode code 439 = .ok (.iconst 0, 1) := by decide +kernel
theorem ld_440 : decode code 440 = .ok (.ireturn, 1) := by decide +kernel
theorem ld_441 : decode code 441 = .ok (.goto 333, 3) := by decide +kernel
theorem ld_444 : decode code 444 = .ok (.aload_n 1, 1) := by decide +kernel
theorem ld_445 : decode code 445 = .ok (.aload_n 0, 1) := by decide +kernel
theorem ld_446 : decode code 446 = .ok (.iload 4, 2) := by decide +kernel
theorem ld_448 : decode code 448 = .ok (.iconst 1, 1) := by decide +kernel
theorem ld_449 : decode code 449 = .ok (.iadd, 1) := by decide +kernel
theorem ld_450 : decode code 450 = .ok (.iaload, 1) := by decide +kernel
theorem ld_451 : decode code 451 = .ok (.aload_n 3, 1) := by decide +kernel
theorem ld_452 : decode code 452 = .ok (.invokestatic 64, 3) := by decide +kernel
theorem ld_455 : decode code 455 = .ok (.istore 5, 2) := by decide +kernel
theorem ld_457 : decode code 457 = .ok (.aload_n 2, 1) := by decide +kernel
theorem ld_458 : decode code 458 = .ok (.aload_n 0, 1) := by decide +kernel
theorem ld_459 : decode code 459 = .ok (.iload 4, 2) := by decide +kernel
theorem ld_461 : decode code 461 = .ok (.iconst 1, 1) := by decide +kernel
theorem ld_462 : decode code 462 = .ok (.iadd, 1) := by decide +kernel
theorem ld_463 : decode code 463 = .ok (.iaload, 1) := by decide +kernel
theorem ld_464 : decode code 464 = .ok (.invokevirtual 66, 3) := by decide +kernel
theorem ld_467 : decode code 467 = .ok (.istore 6, 2) := by decide +kernel
theorem ld_469 : decode code 469 = .ok (.aload_n 2, 1) := by decide +kernel
theorem ld_470 : decode code 470 = .ok (.invokevirtual 46, 3) := by decide +kernel
theorem ld_473 : decode code 473 = .ok (.iload 5, 2) := by decide +kernel
theorem ld_475 : decode code 475 = .ok (.if_icmp .eq 5, 3) := by decide +kernel
theorem ld_478 : decode code 478 = .ok (.iconst 0, 1) := by decide +kernel
theorem ld_479 : decode code 479 = .ok (.ireturn, 1) := by decide +kernel
theorem ld_480 : decode code 480 = .ok (.iload 5, 2) := by decide +kernel
theorem ld_482 : decode code 482 = .ok (.ifCond .ne 15, 3) := by decide +kernel
theorem ld_485 : decode code 485 = .ok (.aload_n 3, 1) := by decide +kernel
theorem ld_486 : decode code 486 = .ok (.iconst 0, 1) := by decide +kernel
theorem ld_487 : decode code 487 = .ok (.laload, 1) := by decide +kernel
theorem ld_488 : decode code 488 = .ok (.iload 6, 2) := by decide +kernel
theorem ld_490 : decode code 490 = .ok (.i2l, 1) := by decide +kernel
theorem ld_491 : decode code 491 = .ok (.lcmp, 1) := by decide +kernel
theorem ld_492 : decode code 492 = .ok (.ifCond .eq 5, 3) := by decide +kernel
theorem ld_495 : decode code 495 = .ok (.iconst 0, 1) := by decide +kernel
theorem ld_496 : decode code 496 = .ok (.ireturn, 1) := by decide +kernel
theorem ld_497 : decode code 497 = .ok (.goto 277, 3) := by decide +kernel
theorem ld_500 : decode code 500 = .ok (.aload_n 1, 1) := by decide +kernel
theorem ld_501 : decode code 501 = .ok (.invokevirtual 67, 3) := by decide +kernel
theorem ld_504 : decode code 504 = .ok (.aload_n 2, 1) := by decide +kernel
theorem ld_505 : decode code 505 = .ok (.invokevirtual 70, 3) := by decide +kernel
theorem ld_508 : decode code 508 = .ok (.if_icmp .eq 266, 3) := by decide +kernel
theorem ld_511 : decode code 511 = .ok (.iconst 0, 1) := by decide +kernel
theorem ld_512 : decode code 512 = .ok (.ireturn, 1) := by decide +kernel
theorem ld_513 : decode code 513 = .ok (.aload_n 1, 1) := by decide +kernel
theorem ld_514 : decode code 514 = .ok (.aload_n 0, 1) := by decide +kernel
theorem ld_515 : decode code 515 = .ok (.iload 4, 2) := by decide +kernel
theorem ld_517 : decode code 517 = .ok (.iconst 1, 1) := by decide +kernel
theorem ld_518 : decode code 518 = .ok (.iadd, 1) := by decide +kernel
theorem ld_519 : decode code 519 = .ok (.iaload, 1) := by decide +kernel
theorem ld_520 : decode code 520 = .ok (.invokevirtual 71, 3) := by decide +kernel
theorem ld_523 : decode code 523 = .ok (.aload_n 2, 1) := by decide +kernel
theorem ld_524 : decode code 524 = .ok (.aload_n 0, 1) := by decide +kernel
theorem ld_525 : decode code 525 = .ok (.iload 4, 2) := by decide +kernel
theorem ld_527 : decode code 527 = .ok (.iconst 1, 1) := by decide +kernel
theorem ld_528 : decode code 528 = .ok (.iadd, 1) := by decide +kernel
theorem ld_529 : decode code 529 = .ok (.iaload, 1) := by decide +kernel
theorem ld_530 : decode code 530 = .ok (.invokevirtual 75, 3) := by decide +kernel
theorem ld_533 : decode code 533 = .ok (.if_icmp .eq 241, 3) := by decide +kernel
theorem ld_536 : decode code 536 = .ok (.iconst 0, 1) := by decide +kernel
theorem ld_537 : decode code 537 = .ok (.ireturn, 1) := by decide +kernel
theorem ld_538 : decode code 538 = .ok (.aload_n 1, 1) := by decide +kernel
theorem ld_539 : decode code 539 = .ok (.aload_n 0, 1) := by decide +kernel
theorem ld_540 : decode code 540 = .ok (.iload 4, 2) := by decide +kernel
theorem ld_542 : decode code 542 = .ok (.iconst 1, 1) := by decide +kernel
theorem ld_543 : decode code 543 = .ok (.iadd, 1) := by decide +kernel
theorem ld_544 : decode code 544 = .ok (.iaload, 1) := by decide +kernel
theorem ld_545 : decode code 545 = .ok (.invokevirtual 76, 3) := by decide +kernel
theorem ld_548 : decode code 548 = .ok (.aload_n 2, 1) := by decide +kernel
theorem ld_549 : decode code 549 = .ok (.aload_n 0, 1) := by decide +kernel
theorem ld_550 : decode code 550 = .ok (.iload 4, 2) := by decide +kernel
theorem ld_552 : decode code 552 = .ok (.iconst 1, 1) := by decide +kernel
theorem ld_553 : decode code 553 = .ok (.iadd, 1) := by decide +kernel
theorem ld_554 : decode code 554 = .ok (.iaload, 1) := by decide +kernel
theorem ld_555 : decode code 555 = .ok (.invokevirtual 79, 3) := by decide +kernel
theorem ld_558 : decode code 558 = .ok (.if_icmp .eq 216, 3) := by decide +kernel
theorem ld_561 : decode code 561 = .ok (.iconst 0, 1) := by decide +kernel
theorem ld_562 : decode code 562 = .ok (.ireturn, 1) := by decide +kernel
theorem ld_563 : decode code 563 = .ok (.aload_n 1, 1) := by decide +kernel
theorem ld_564 : decode code 564 = .ok (.aload_n 0, 1) := by decide +kernel
theorem ld_565 : decode code 565 = .ok (.iload 4, 2) := by decide +kernel
theorem ld_567 : decode code 567 = .ok (.iconst 1, 1) := by decide +kernel
theorem ld_568 : decode code 568 = .ok (.iadd, 1) := by decide +kernel
theorem ld_569 : decode code 569 = .ok (.iaload, 1) := by decide +kernel
theorem ld_570 : decode code 570 = .ok (.invokevirtual 80, 3) := by decide +kernel
theorem ld_573 : decode code 573 = .ok (.aload_n 2, 1) := by decide +kernel
theorem ld_574 : decode code 574 = .ok (.aload_n 0, 1) := by decide +kernel
theorem ld_575 : decode code 575 = .ok (.iload 4, 2) := by decide +kernel
theorem ld_577 : decode code 577 = .ok (.iconst 1, 1) := by decide +kernel
theorem ld_578 : decode code 578 = .ok (.iadd, 1) := by decide +kernel
theorem ld_579 : decode code 579 = .ok (.iaload, 1) := by decide +kernel
theorem ld_580 : decode code 580 = .ok (.invokevirtual 83, 3) := by decide +kernel
theorem ld_583 : decode code 583 = .ok (.if_icmp .eq 191, 3) := by decide +kernel
theorem ld_586 : decode code 586 = .ok (.iconst 0, 1) := by decide +kernel
theorem ld_587 : decode code 587 = .ok (.ireturn, 1) := by decide +kernel
theorem ld_588 : decode code 588 = .ok (.aload_n 1, 1) := by decide +kernel
theorem ld_589 : decode code 589 = .ok (.invokevirtual 84, 3) := by decide +kernel
theorem ld_592 : decode code 592 = .ok (.aload_n 2, 1) := by decide +kernel
theorem ld_593 : decode code 593 = .ok (.invokevirtual 87, 3) := by decide +kernel
theorem ld_596 : decode code 596 = .ok (.if_icmp .eq 178, 3) := by decide +kernel
theorem ld_599 : decode code 599 = .ok (.iconst 0, 1) := by decide +kernel
theorem ld_600 : decode code 600 = .ok (.ireturn, 1) := by decide +kernel
theorem ld_601 : decode code 601 = .ok (.aload_n 1, 1) := by decide +kernel
theorem ld_602 : decode code 602 = .ok (.aload_n 0, 1) := by decide +kernel
theorem ld_603 : decode code 603 = .ok (.iload 4, 2) := by decide +kernel
theorem ld_605 : decode code 605 = .ok (.iconst 1, 1) := by decide +kernel
theorem ld_606 : decode code 606 = .ok (.iadd, 1) := by decide +kernel
theorem ld_607 : decode code 607 = .ok (.iaload, 1) := by decide +kernel
theorem ld_608 : decode code 608 = .ok (.aload_n 0, 1) := by decide +kernel
theorem ld_609 : decode code 609 = .ok (.iload 4, 2) := by decide +kernel
theorem ld_611 : decode code 611 = .ok (.iconst 2, 1) := by decide +kernel
theorem ld_612 : decode code 612 = .ok (.iadd, 1) := by decide +kernel
theorem ld_613 : decode code 613 = .ok (.iaload, 1) := by decide +kernel
theorem ld_614 : decode code 614 = .ok (.invokevirtual 88, 3) := by decide +kernel
theorem ld_617 : decode code 617 = .ok (.aload_n 2, 1) := by decide +kernel
theorem ld_618 : decode code 618 = .ok (.aload_n 0, 1) := by decide +kernel
theorem ld_619 : decode code 619 = .ok (.iload 4, 2) := by decide +kernel
theorem ld_621 : decode code 621 = .ok (.iconst 1, 1) := by decide +kernel
theorem ld_622 : decode code 622 = .ok (.iadd, 1) := by decide +kernel
theorem ld_623 : decode code 623 = .ok (.iaload, 1) := by decide +kernel
theorem ld_624 : decode code 624 = .ok (.aload_n 0, 1) := by decide +kernel
theorem ld_625 : decode code 625 = .ok (.iload 4, 2) := by decide +kernel
theorem ld_627 : decode code 627 = .ok (.iconst 2, 1) := by decide +kernel
theorem ld_628 : decode code 628 = .ok (.iadd, 1) := by decide +kernel
theorem ld_629 : decode code 629 = .ok (.iaload, 1) := by decide +kernel
theorem ld_630 : decode code 630 = .ok (.invokevirtual 91, 3) := by decide +kernel
theorem ld_633 : decode code 633 = .ok (.if_icmp .eq 141, 3) := by decide +kernel
theorem ld_636 : decode code 636 = .ok (.iconst 0, 1) := by decide +kernel
theorem ld_637 : decode code 637 = .ok (.ireturn, 1) := by decide +kernel
theorem ld_638 : decode code 638 = .ok (.aload_n 1, 1) := by decide +kernel
theorem ld_639 : decode code 639 = .ok (.aload_n 0, 1) := by decide +kernel
theorem ld_640 : decode code 640 = .ok (.iload 4, 2) := by decide +kernel
theorem ld_642 : decode code 642 = .ok (.iconst 1, 1) := by decide +kernel
theorem ld_643 : decode code 643 = .ok (.iadd, 1) := by decide +kernel
theorem ld_644 : decode code 644 = .ok (.iaload, 1) := by decide +kernel
theorem ld_645 : decode code 645 = .ok (.aload_n 0, 1) := by decide +kernel
theorem ld_646 : decode code 646 = .ok (.iload 4, 2) := by decide +kernel
theorem ld_648 : decode code 648 = .ok (.iconst 2, 1) := by decide +kernel
theorem ld_649 : decode code 649 = .ok (.iadd, 1) := by decide +kernel
theorem ld_650 : decode code 650 = .ok (.iaload, 1) := by decide +kernel
theorem ld_651 : decode code 651 = .ok (.invokevirtual 92, 3) := by decide +kernel
theorem ld_654 : decode code 654 = .ok (.aload_n 2, 1) := by decide +kernel
theorem ld_655 : decode code 655 = .ok (.aload_n 0, 1) := by decide +kernel
theorem ld_656 : decode code 656 = .ok (.iload 4, 2) := by decide +kernel
theorem ld_658 : decode code 658 = .ok (.iconst 1, 1) := by decide +kernel
theorem ld_659 : decode code 659 = .ok (.iadd, 1) := by decide +kernel
theorem ld_660 : decode code 660 = .ok (.iaload, 1) := by decide +kernel
theorem ld_661 : decode code 661 = .ok (.aload_n 0, 1) := by decide +kernel
theorem ld_662 : decode code 662 = .ok (.iload 4, 2) := by decide +kernel
theorem ld_664 : decode code 664 = .ok (.iconst 2, 1) := by decide +kernel
theorem ld_665 : decode code 665 = .ok (.iadd, 1) := by decide +kernel
theorem ld_666 : decode code 666 = .ok (.iaload, 1) := by decide +kernel
theorem ld_667 : decode code 667 = .ok (.invokevirtual 95, 3) := by decide +kernel
theorem ld_670 : decode code 670 = .ok (.if_icmp .eq 104, 3) := by decide +kernel
theorem ld_673 : decode code 673 = .ok (.iconst 0, 1) := by decide +kernel
theorem ld_674 : decode code 674 = .ok (.ireturn, 1) := by decide +kernel
theorem ld_675 : decode code 675 = .ok (.aload_n 1, 1) := by decide +kernel
theorem ld_676 : decode code 676 = .ok (.aload_n 0, 1) := by decide +kernel
theorem ld_677 : decode code 677 = .ok (.iload 4, 2) := by decide +kernel
theorem ld_679 : decode code 679 = .ok (.iconst 1, 1) := by decide +kernel
theorem ld_680 : decode code 680 = .ok (.iadd, 1) := by decide +kernel
theorem ld_681 : decode code 681 = .ok (.iaload, 1) := by decide +kernel
theorem ld_682 : decode code 682 = .ok (.invokevirtual 96, 3) := by decide +kernel
theorem ld_685 : decode code 685 = .ok (.aload_n 2, 1) := by decide +kernel
theorem ld_686 : decode code 686 = .ok (.aload_n 0, 1) := by decide +kernel
theorem ld_687 : decode code 687 = .ok (.iload 4, 2) := by decide +kernel
theorem ld_689 : decode code 689 = .ok (.iconst 1, 1) := by decide +kernel
theorem ld_690 : decode code 690 = .ok (.iadd, 1) := by decide +kernel
theorem ld_691 : decode code 691 = .ok (.iaload, 1) := by decide +kernel
theorem ld_692 : decode code 692 = .ok (.invokevirtual 99, 3) := by decide +kernel
theorem ld_695 : decode code 695 = .ok (.if_icmp .eq 79, 3) := by decide +kernel
theorem ld_698 : decode code 698 = .ok (.iconst 0, 1) := by decide +kernel
theorem ld_699 : decode code 699 = .ok (.ireturn, 1) := by decide +kernel
theorem ld_700 : decode code 700 = .ok (.aload_n 1, 1) := by decide +kernel
theorem ld_701 : decode code 701 = .ok (.aload_n 0, 1) := by decide +kernel
theorem ld_702 : decode code 702 = .ok (.iload 4, 2) := by decide +kernel
theorem ld_704 : decode code 704 = .ok (.iconst 1, 1) := by decide +kernel
theorem ld_705 : decode code 705 = .ok (.iadd, 1) := by decide +kernel
theorem ld_706 : decode code 706 = .ok (.iaload, 1) := by decide +kernel
theorem ld_707 : decode code 707 = .ok (.aload_n 0, 1) := by decide +kernel
theorem ld_708 : decode code 708 = .ok (.iload 4, 2) := by decide +kernel
theorem ld_710 : decode code 710 = .ok (.iconst 2, 1) := by decide +kernel
theorem ld_711 : decode code 711 = .ok (.iadd, 1) := by decide +kernel
theorem ld_712 : decode code 712 = .ok (.iaload, 1) := by decide +kernel
theorem ld_713 : decode code 713 = .ok (.invokevirtual 100, 3) := by decide +kernel
theorem ld_716 : decode code 716 = .ok (.aload_n 2, 1) := by decide +kernel
theorem ld_717 : decode code 717 = .ok (.aload_n 0, 1) := by decide +kernel
theorem ld_718 : decode code 718 = .ok (.iload 4, 2) := by decide +kernel
theorem ld_720 : decode code 720 = .ok (.iconst 1, 1) := by decide +kernel
theorem ld_721 : decode code 721 = .ok (.iadd, 1) := by decide +kernel
theorem ld_722 : decode code 722 = .ok (.iaload, 1) := by decide +kernel
theorem ld_723 : decode code 723 = .ok (.aload_n 0, 1) := by decide +kernel
theorem ld_724 : decode code 724 = .ok (.iload 4, 2) := by decide +kernel
theorem ld_726 : decode code 726 = .ok (.iconst 2, 1) := by decide +kernel
theorem ld_727 : decode code 727 = .ok (.iadd, 1) := by decide +kernel
theorem ld_728 : decode code 728 = .ok (.iaload, 1) := by decide +kernel
theorem ld_729 : decode code 729 = .ok (.invokevirtual 103, 3) := by decide +kernel
theorem ld_732 : decode code 732 = .ok (.if_icmp .eq 42, 3) := by decide +kernel
theorem ld_735 : decode code 735 = .ok (.iconst 0, 1) := by decide +kernel
theorem ld_736 : decode code 736 = .ok (.ireturn, 1) := by decide +kernel
theorem ld_737 : decode code 737 = .ok (.aload_n 1, 1) := by decide +kernel
theorem ld_738 : decode code 738 = .ok (.aload_n 0, 1) := by decide +kernel
theorem ld_739 : decode code 739 = .ok (.iload 4, 2) := by decide +kernel
theorem ld_741 : decode code 741 = .ok (.iconst 1, 1) := by decide +kernel
theorem ld_742 : decode code 742 = .ok (.iadd, 1) := by decide +kernel
theorem ld_743 : decode code 743 = .ok (.iaload, 1) := by decide +kernel
theorem ld_744 : decode code 744 = .ok (.aload_n 0, 1) := by decide +kernel
theorem ld_745 : decode code 745 = .ok (.iload 4, 2) := by decide +kernel
theorem ld_747 : decode code 747 = .ok (.iconst 2, 1) := by decide +kernel
theorem ld_748 : decode code 748 = .ok (.iadd, 1) := by decide +kernel
theorem ld_749 : decode code 749 = .ok (.iaload, 1) := by decide +kernel
theorem ld_750 : decode code 750 = .ok (.invokevirtual 104, 3) := by decide +kernel
theorem ld_753 : decode code 753 = .ok (.aload_n 2, 1) := by decide +kernel
theorem ld_754 : decode code 754 = .ok (.aload_n 0, 1) := by decide +kernel
theorem ld_755 : decode code 755 = .ok (.iload 4, 2) := by decide +kernel
theorem ld_757 : decode code 757 = .ok (.iconst 1, 1) := by decide +kernel
theorem ld_758 : decode code 758 = .ok (.iadd, 1) := by decide +kernel
theorem ld_759 : decode code 759 = .ok (.iaload, 1) := by decide +kernel
theorem ld_760 : decode code 760 = .ok (.aload_n 0, 1) := by decide +kernel
theorem ld_761 : decode code 761 = .ok (.iload 4, 2) := by decide +kernel
theorem ld_763 : decode code 763 = .ok (.iconst 2, 1) := by decide +kernel
theorem ld_764 : decode code 764 = .ok (.iadd, 1) := by decide +kernel
theorem ld_765 : decode code 765 = .ok (.iaload, 1) := by decide +kernel
theorem ld_766 : decode code 766 = .ok (.invokevirtual 107, 3) := by decide +kernel
theorem ld_769 : decode code 769 = .ok (.if_icmp .eq 5, 3) := by decide +kernel
theorem ld_772 : decode code 772 = .ok (.iconst 0, 1) := by decide +kernel
theorem ld_773 : decode code 773 = .ok (.ireturn, 1) := by decide +kernel
theorem ld_774 : decode code 774 = .ok (.iinc 4 4, 3) := by decide +kernel
theorem ld_777 : decode code 777 = .ok (.goto (-754), 3) := by decide +kernel
theorem ld_780 : decode code 780 = .ok (.iconst 1, 1) := by decide +kernel
theorem ld_781 : decode code 781 = .ok (.ireturn, 1) := by decide +kernel
