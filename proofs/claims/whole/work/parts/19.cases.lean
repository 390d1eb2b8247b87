/-! THE LAW'S CASES (by program: wip/whole/gen/genlaw.py) -/
theorem dL_law_0 : decode code 0 = .ok (.new 8, 3) := by decide +kernel
theorem dL_law_3 : decode code 3 = .ok (.dup, 1) := by decide +kernel
theorem dL_law_4 : decode code 4 = .ok (.invokespecial 87, 3) := by decide +kernel
theorem dL_law_7 : decode code 7 = .ok (.astore_n 1, 1) := by decide +kernel
theorem dL_law_8 : decode code 8 = .ok (.new 88, 3) := by decide +kernel
theorem dL_law_11 : decode code 11 = .ok (.dup, 1) := by decide +kernel
theorem dL_law_12 : decode code 12 = .ok (.invokespecial 90, 3) := by decide +kernel
theorem dL_law_15 : decode code 15 = .ok (.astore_n 2, 1) := by decide +kernel
theorem dL_law_16 : decode code 16 = .ok (.iconst 1, 1) := by decide +kernel
theorem dL_law_17 : decode code 17 = .ok (.newarray .long, 2) := by decide +kernel
theorem dL_law_19 : decode code 19 = .ok (.astore_n 3, 1) := by decide +kernel
theorem dL_law_20 : decode code 20 = .ok (.iconst 0, 1) := by decide +kernel
theorem dL_law_21 : decode code 21 = .ok (.istore 4, 2) := by decide +kernel
theorem dL_law_23 : decode code 23 = .ok (.iload 4, 2) := by decide +kernel
theorem dL_law_25 : decode code 25 = .ok (.aload_n 0, 1) := by decide +kernel
theorem dL_law_26 : decode code 26 = .ok (.arraylength, 1) := by decide +kernel
theorem dL_law_27 : decode code 27 = .ok (.bipush 6, 2) := by decide +kernel
theorem dL_law_29 : decode code 29 = .ok (.isub, 1) := by decide +kernel
theorem dL_law_30 : decode code 30 = .ok (.if_icmp .gt 1569, 3) := by decide +kernel
theorem dL_law_33 : decode code 33 = .ok (.aload_n 0, 1) := by decide +kernel
theorem dL_law_34 : decode code 34 = .ok (.iload 4, 2) := by decide +kernel
theorem dL_law_36 : decode code 36 = .ok (.iaload, 1) := by decide +kernel
theorem dL_law_37 : decode code 37 = .ok (.bipush 31, 2) := by decide +kernel
theorem dL_law_39 : decode code 39 = .ok (.iand, 1) := by decide +kernel
theorem dL_law_40 : decode code 40 = .ok (.tableswitch 1553 0 25 #[120, 183, 243, 311, 379, 451, 555, 630, 686, 766, 822, 878, 922, 935, 948, 961, 1029, 1085, 1153, 1209, 1265, 1321, 1334, 1390, 1403, 1478], 120) := by decide +kernel
theorem dL_law_160 : decode code 160 = .ok (.aload_n 1, 1) := by decide +kernel
theorem dL_law_161 : decode code 161 = .ok (.aload_n 0, 1) := by decide +kernel
theorem dL_law_162 : decode code 162 = .ok (.iload 4, 2) := by decide +kernel
theorem dL_law_164 : decode code 164 = .ok (.iconst 1, 1) := by decide +kernel
theorem dL_law_165 : decode code 165 = .ok (.iadd, 1) := by decide +kernel
theorem dL_law_166 : decode code 166 = .ok (.iaload, 1) := by decide +kernel
theorem dL_law_167 : decode code 167 = .ok (.aload_n 3, 1) := by decide +kernel
theorem dL_law_168 : decode code 168 = .ok (.invokestatic 91, 3) := by decide +kernel
theorem dL_law_171 : decode code 171 = .ok (.istore 5, 2) := by decide +kernel
theorem dL_law_173 : decode code 173 = .ok (.aload_n 2, 1) := by decide +kernel
theorem dL_law_174 : decode code 174 = .ok (.aload_n 0, 1) := by decide +kernel
theorem dL_law_175 : decode code 175 = .ok (.iload 4, 2) := by decide +kernel
theorem dL_law_177 : decode code 177 = .ok (.iconst 1, 1) := by decide +kernel
theorem dL_law_178 : decode code 178 = .ok (.iadd, 1) := by decide +kernel
theorem dL_law_179 : decode code 179 = .ok (.iaload, 1) := by decide +kernel
theorem dL_law_180 : decode code 180 = .ok (.invokevirtual 96, 3) := by decide +kernel
theorem dL_law_183 : decode code 183 = .ok (.istore 6, 2) := by decide +kernel
theorem dL_law_185 : decode code 185 = .ok (.aload_n 2, 1) := by decide +kernel
theorem dL_law_186 : decode code 186 = .ok (.invokevirtual 97, 3) := by decide +kernel
theorem dL_law_189 : decode code 189 = .ok (.iload 5, 2) := by decide +kernel
theorem dL_law_191 : decode code 191 = .ok (.if_icmp .eq 5, 3) := by decide +kernel
theorem dL_law_194 : decode code 194 = .ok (.iconst 0, 1) := by decide +kernel
theorem dL_law_195 : decode code 195 = .ok (.ireturn, 1) := by decide +kernel
theorem dL_law_196 : decode code 196 = .ok (.iload 5, 2) := by decide +kernel
theorem dL_law_198 : decode code 198 = .ok (.ifCond .ne 22, 3) := by decide +kernel
theorem dL_law_201 : decode code 201 = .ok (.aload_n 3, 1) := by decide +kernel
theorem dL_law_202 : decode code 202 = .ok (.iconst 0, 1) := by decide +kernel
theorem dL_law_203 : decode code 203 = .ok (.laload, 1) := by decide +kernel
theorem dL_law_204 : decode code 204 = .ok (.iload 6, 2) := by decide +kernel
theorem dL_law_206 : decode code 206 = .ok (.ifCond .eq 7, 3) := by decide +kernel
theorem dL_law_209 : decode code 209 = .ok (.lconst 1, 1) := by decide +kernel
theorem dL_law_210 : decode code 210 = .ok (.goto 4, 3) := by decide +kernel
theorem dL_law_213 : decode code 213 = .ok (.lconst 0, 1) := by decide +kernel
theorem dL_law_214 : decode code 214 = .ok (.lcmp, 1) := by decide +kernel
theorem dL_law_215 : decode code 215 = .ok (.ifCond .eq 5, 3) := by decide +kernel
theorem dL_law_218 : decode code 218 = .ok (.iconst 0, 1) := by decide +kernel
theorem dL_law_219 : decode code 219 = .ok (.ireturn, 1) := by decide +kernel
theorem dL_law_220 : decode code 220 = .ok (.goto 1373, 3) := by decide +kernel
theorem dL_law_223 : decode code 223 = .ok (.aload_n 1, 1) := by decide +kernel
theorem dL_law_224 : decode code 224 = .ok (.aload_n 0, 1) := by decide +kernel
theorem dL_law_225 : decode code 225 = .ok (.iload 4, 2) := by decide +kernel
theorem dL_law_227 : decode code 227 = .ok (.iconst 1, 1) := by decide +kernel
theorem dL_law_228 : decode code 228 = .ok (.iadd, 1) := by decide +kernel
theorem dL_law_229 : decode code 229 = .ok (.iaload, 1) := by decide +kernel
theorem dL_law_230 : decode code 230 = .ok (.aload_n 0, 1) := by decide +kernel
theorem dL_law_231 : decode code 231 = .ok (.iload 4, 2) := by decide +kernel
theorem dL_law_233 : decode code 233 = .ok (.iconst 2, 1) := by decide +kernel
theorem dL_law_234 : decode code 234 = .ok (.iadd, 1) := by decide +kernel
theorem dL_law_235 : decode code 235 = .ok (.iaload, 1) := by decide +kernel
theorem dL_law_236 : decode code 236 = .ok (.aload_n 0, 1) := by decide +kernel
theorem dL_law_237 : decode code 237 = .ok (.iload 4, 2) := by decide +kernel
theorem dL_law_239 : decode code 239 = .ok (.iconst 3, 1) := by decide +kernel
theorem dL_law_240 : decode code 240 = .ok (.iadd, 1) := by decide +kernel
theorem dL_law_241 : decode code 241 = .ok (.iaload, 1) := by decide +kernel
theorem dL_law_242 : decode code 242 = .ok (.invokestatic 100, 3) := by decide +kernel
theorem dL_law_245 : decode code 245 = .ok (.istore 5, 2) := by decide +kernel
theorem dL_law_247 : decode code 247 = .ok (.aload_n 2, 1) := by decide +kernel
theorem dL_law_248 : decode code 248 = .ok (.aload_n 0, 1) := by decide +kernel
theorem dL_law_249 : decode code 249 = .ok (.iload 4, 2) := by decide +kernel
theorem dL_law_251 : decode code 251 = .ok (.iconst 1, 1) := by decide +kernel
theorem dL_law_252 : decode code 252 = .ok (.iadd, 1) := by decide +kernel
theorem dL_law_253 : decode code 253 = .ok (.iaload, 1) := by decide +kernel
theorem dL_law_254 : decode code 254 = .ok (.aload_n 0, 1) := by decide +kernel
theorem dL_law_255 : decode code 255 = .ok (.iload 4, 2) := by decide +kernel
theorem dL_law_257 : decode code 257 = .ok (.iconst 2, 1) := by decide +kernel
theorem dL_law_258 : decode code 258 = .ok (.iadd, 1) := by decide +kernel
theorem dL_law_259 : decode code 259 = .ok (.iaload, 1) := by decide +kernel
theorem dL_law_260 : decode code 260 = .ok (.aload_n 0, 1) := by decide +kernel
theorem dL_law_261 : decode code 261 = .ok (.iload 4, 2) := by decide +kernel
theorem dL_law_263 : decode code 263 = .ok (.iconst 3, 1) := by decide +kernel
theorem dL_law_264 : decode code 264 = .ok (.iadd, 1) := by decide +kernel
theorem dL_law_265 : decode code 265 = .ok (.iaload, 1) := by decide +kernel
theorem dL_law_266 : decode code 266 = .ok (.invokevirtual 103, 3) := by decide +kernel
theorem dL_law_269 : decode code 269 = .ok (.aload_n 2, 1) := by decide +kernel
theorem dL_law_270 : decode code 270 = .ok (.invokevirtual 97, 3) := by decide +kernel
theorem dL_law_273 : decode code 273 = .ok (.iload 5, 2) := by decide +kernel
theorem dL_law_275 : decode code 275 = .ok (.if_icmp .eq 5, 3) := by decide +kernel
theorem dL_law_278 : decode code 278 = .ok (.iconst 0, 1) := by decide +kernel
theorem dL_law_279 : decode code 279 = .ok (.ireturn, 1) := by decide +kernel
theorem dL_law_280 : decode code 280 = .ok (.goto 1313, 3) := by decide +kernel
theorem dL_law_283 : decode code 283 = .ok (.aload_n 1, 1) := by decide +kernel
theorem dL_law_284 : decode code 284 = .ok (.aload_n 0, 1) := by decide +kernel
theorem dL_law_285 : decode code 285 = .ok (.iload 4, 2) := by decide +kernel
theorem dL_law_287 : decode code 287 = .ok (.iconst 1, 1) := by decide +kernel
theorem dL_law_288 : decode code 288 = .ok (.iadd, 1) := by decide +kernel
theorem dL_law_289 : decode code 289 = .ok (.iaload, 1) := by decide +kernel
theorem dL_law_290 : decode code 290 = .ok (.aload_n 0, 1) := by decide +kernel
theorem dL_law_291 : decode code 291 = .ok (.iload 4, 2) := by decide +kernel
theorem dL_law_293 : decode code 293 = .ok (.iconst 2, 1) := by decide +kernel
theorem dL_law_294 : decode code 294 = .ok (.iadd, 1) := by decide +kernel
theorem dL_law_295 : decode code 295 = .ok (.iaload, 1) := by decide +kernel
theorem dL_law_296 : decode code 296 = .ok (.aload_n 3, 1) := by decide +kernel
theorem dL_law_297 : decode code 297 = .ok (.invokestatic 104, 3) := by decide +kernel
theorem dL_law_300 : decode code 300 = .ok (.istore 5, 2) := by decide +kernel
theorem dL_law_302 : decode code 302 = .ok (.aload_n 2, 1) := by decide +kernel
theorem dL_law_303 : decode code 303 = .ok (.aload_n 0, 1) := by decide +kernel
theorem dL_law_304 : decode code 304 = .ok (.iload 4, 2) := by decide +kernel
theorem dL_law_306 : decode code 306 = .ok (.iconst 1, 1) := by decide +kernel
theorem dL_law_307 : decode code 307 = .ok (.iadd, 1) := by decide +kernel
theorem dL_law_308 : decode code 308 = .ok (.iaload, 1) := by decide +kernel
theorem dL_law_309 : decode code 309 = .ok (.aload_n 0, 1) := by decide +kernel
theorem dL_law_310 : decode code 310 = .ok (.iload 4, 2) := by decide +kernel
theorem dL_law_312 : decode code 312 = .ok (.iconst 2, 1) := by decide +kernel
theorem dL_law_313 : decode code 313 = .ok (.iadd, 1) := by decide +kernel
theorem dL_law_314 : decode code 314 = .ok (.iaload, 1) := by decide +kernel
theorem dL_law_315 : decode code 315 = .ok (.invokevirtual 107, 3) := by decide +kernel
theorem dL_law_318 : decode code 318 = .ok (.istore 6, 2) := by decide +kernel
theorem dL_law_320 : decode code 320 = .ok (.aload_n 2, 1) := by decide +kernel
theorem dL_law_321 : decode code 321 = .ok (.invokevirtual 97, 3) := by decide +kernel
theorem dL_law_324 : decode code 324 = .ok (.iload 5, 2) := by decide +kernel
theorem dL_law_326 : decode code 326 = .ok (.if_icmp .eq 5, 3) := by decide +kernel
theorem dL_law_329 : decode code 329 = .ok (.iconst 0, 1) := by decide +kernel
theorem dL_law_330 : decode code 330 = .ok (.ireturn, 1) := by decide +kernel
theorem dL_law_331 : decode code 331 = .ok (.iload 5, 2) := by decide +kernel
theorem dL_law_333 : decode code 333 = .ok (.ifCond .ne 15, 3) := by decide +kernel
theorem dL_law_336 : decode code 336 = .ok (.aload_n 3, 1) := by decide +kernel
theorem dL_law_337 : decode code 337 = .ok (.iconst 0, 1) := by decide +kernel
theorem dL_law_338 : decode code 338 = .ok (.laload, 1) := by decide +kernel
theorem dL_law_339 : decode code 339 = .ok (.iload 6, 2) := by decide +kernel
theorem dL_law_341 : decode code 341 = .ok (.i2l, 1) := by decide +kernel
theorem dL_law_342 : decode code 342 = .ok (.lcmp, 1) := by decide +kernel
theorem dL_law_343 : decode code 343 = .ok (.ifCond .eq 5, 3) := by decide +kernel
theorem dL_law_346 : decode code 346 = .ok (.iconst 0, 1) := by decide +kernel
theorem dL_law_347 : decode code 347 = .ok (.ireturn, 1) := by decide +kernel
theorem dL_law_348 : decode code 348 = .ok (.goto 1245, 3) := by decide +kernel
theorem dL_law_351 : decode code 351 = .ok (.aload_n 1, 1) := by decide +kernel
theorem dL_law_352 : decode code 352 = .ok (.aload_n 0, 1) := by decide +kernel
theorem dL_law_353 : decode code 353 = .ok (.iload 4, 2) := by decide +kernel
theorem dL_law_355 : decode code 355 = .ok (.iconst 1, 1) := by decide +kernel
theorem dL_law_356 : decode code 356 = .ok (.iadd, 1) := by decide +kernel
theorem dL_law_357 : decode code 357 = .ok (.iaload, 1) := by decide +kernel
theorem dL_law_358 : decode code 358 = .ok (.aload_n 0, 1) := by decide +kernel
theorem dL_law_359 : decode code 359 = .ok (.iload 4, 2) := by decide +kernel
theorem dL_law_361 : decode code 361 = .ok (.iconst 2, 1) := by decide +kernel
theorem dL_law_362 : decode code 362 = .ok (.iadd, 1) := by decide +kernel
theorem dL_law_363 : decode code 363 = .ok (.iaload, 1) := by decide +kernel
theorem dL_law_364 : decode code 364 = .ok (.aload_n 3, 1) := by decide +kernel
theorem dL_law_365 : decode code 365 = .ok (.invokestatic 108, 3) := by decide +kernel
theorem dL_law_368 : decode code 368 = .ok (.istore 5, 2) := by decide +kernel
theorem dL_law_370 : decode code 370 = .ok (.aload_n 2, 1) := by decide +kernel
theorem dL_law_371 : decode code 371 = .ok (.aload_n 0, 1) := by decide +kernel
theorem dL_law_372 : decode code 372 = .ok (.iload 4, 2) := by decide +kernel
theorem dL_law_374 : decode code 374 = .ok (.iconst 1, 1) := by decide +kernel
theorem dL_law_375 : decode code 375 = .ok (.iadd, 1) := by decide +kernel
theorem dL_law_376 : decode code 376 = .ok (.iaload, 1) := by decide +kernel
theorem dL_law_377 : decode code 377 = .ok (.aload_n 0, 1) := by decide +kernel
theorem dL_law_378 : decode code 378 = .ok (.iload 4, 2) := by decide +kernel
theorem dL_law_380 : decode code 380 = .ok (.iconst 2, 1) := by decide +kernel
theorem dL_law_381 : decode code 381 = .ok (.iadd, 1) := by decide +kernel
theorem dL_law_382 : decode code 382 = .ok (.iaload, 1) := by decide +kernel
theorem dL_law_383 : decode code 383 = .ok (.invokevirtual 110, 3) := by decide +kernel
theorem dL_law_386 : decode code 386 = .ok (.istore 6, 2) := by decide +kernel
theorem dL_law_388 : decode code 388 = .ok (.aload_n 2, 1) := by decide +kernel
theorem dL_law_389 : decode code 389 = .ok (.invokevirtual 97, 3) := by decide +kernel
theorem dL_law_392 : decode code 392 = .ok (.iload 5, 2) := by decide +kernel
theorem dL_law_394 : decode code 394 = .ok (.if_icmp .eq 5, 3) := by decide +kernel
theorem dL_law_397 : decode code 397 = .ok (.iconst 0, 1) := by decide +kernel
theorem dL_law_398 : decode code 398 = .ok (.ireturn, 1) := by decide +kernel
theorem dL_law_399 : decode code 399 = .ok (.iload 5, 2) := by decide +kernel
theorem dL_law_401 : decode code 401 = .ok (.ifCond .ne 15, 3) := by decide +kernel
theorem dL_law_404 : decode code 404 = .ok (.aload_n 3, 1) := by decide +kernel
theorem dL_law_405 : decode code 405 = .ok (.iconst 0, 1) := by decide +kernel
theorem dL_law_406 : decode code 406 = .ok (.laload, 1) := by decide +kernel
theorem dL_law_407 : decode code 407 = .ok (.iload 6, 2) := by decide +kernel
theorem dL_law_409 : decode code 409 = .ok (.i2l, 1) := by decide +kernel
theorem dL_law_410 : decode code 410 = .ok (.lcmp, 1) := by decide +kernel
theorem dL_law_411 : decode code 411 = .ok (.ifCond .eq 5, 3) := by decide +kernel
theorem dL_law_414 : decode code 414 = .ok (.iconst 0, 1) := by decide +kernel
theorem dL_law_415 : decode code 415 = .ok (.ireturn, 1) := by decide +kernel
theorem dL_law_416 : decode code 416 = .ok (.goto 1177, 3) := by decide +kernel
theorem dL_law_419 : decode code 419 = .ok (.aload_n 1, 1) := by decide +kernel
theorem dL_law_420 : decode code 420 = .ok (.aload_n 0, 1) := by decide +kernel
theorem dL_law_421 : decode code 421 = .ok (.iload 4, 2) := by decide +kernel
theorem dL_law_423 : decode code 423 = .ok (.iconst 1, 1) := by decide +kernel
theorem dL_law_424 : decode code 424 = .ok (.iadd, 1) := by decide +kernel
theorem dL_law_425 : decode code 425 = .ok (.iaload, 1) := by decide +kernel
theorem dL_law_426 : decode code 426 = .ok (.aload_n 0, 1) := by decide +kernel
theorem dL_law_427 : decode code 427 = .ok (.iload 4, 2) := by decide +kernel
theorem dL_law_429 : decode code 429 = .ok (.iconst 2, 1) := by decide +kernel
theorem dL_law_430 : decode code 430 = .ok (.iadd, 1) := by decide +kernel
theorem dL_law_431 : decode code 431 = .ok (.iaload, 1) := by decide +kernel
theorem dL_law_432 : decode code 432 = .ok (.aload_n 0, 1) := by decide +kernel
theorem dL_law_433 : decode code 433 = .ok (.iload 4, 2) := by decide +kernel
theorem dL_law_435 : decode code 435 = .ok (.iconst 3, 1) := by decide +kernel
theorem dL_law_436 : decode code 436 = .ok (.iadd, 1) := by decide +kernel
theorem dL_law_437 : decode code 437 = .ok (.iaload, 1) := by decide +kernel
theorem dL_law_438 : decode code 438 = .ok (.aload_n 0, 1) := by decide +kernel
theorem dL_law_439 : decode code 439 = .ok (.iload 4, 2) := by decide +kernel
theorem dL_law_441 : decode code 441 = .ok (.iconst 4, 1) := by decide +kernel
theorem dL_law_442 : decode code 442 = .ok (.iadd, 1) := by decide +kernel
theorem dL_law_443 : decode code 443 = .ok (.iaload, 1) := by decide +kernel
theorem dL_law_444 : decode code 444 = .ok (.invokestatic 111, 3) := by decide +kernel
theorem dL_law_447 : decode code 447 = .ok (.istore 5, 2) := by decide +kernel
theorem dL_law_449 : decode code 449 = .ok (.aload_n 2, 1) := by decide +kernel
theorem dL_law_450 : decode code 450 = .ok (.aload_n 0, 1) := by decide +kernel
theorem dL_law_451 : decode code 451 = .ok (.iload 4, 2) := by decide +kernel
theorem dL_law_453 : decode code 453 = .ok (.iconst 1, 1) := by decide +kernel
theorem dL_law_454 : decode code 454 = .ok (.iadd, 1) := by decide +kernel
theorem dL_law_455 : decode code 455 = .ok (.iaload, 1) := by decide +kernel
theorem dL_law_456 : decode code 456 = .ok (.aload_n 0, 1) := by decide +kernel
theorem dL_law_457 : decode code 457 = .ok (.iload 4, 2) := by decide +kernel
theorem dL_law_459 : decode code 459 = .ok (.iconst 2, 1) := by decide +kernel
theorem dL_law_460 : decode code 460 = .ok (.iadd, 1) := by decide +kernel
theorem dL_law_461 : decode code 461 = .ok (.iaload, 1) := by decide +kernel
theorem dL_law_462 : decode code 462 = .ok (.aload_n 0, 1) := by decide +kernel
theorem dL_law_463 : decode code 463 = .ok (.iload 4, 2) := by decide +kernel
theorem dL_law_465 : decode code 465 = .ok (.iconst 3, 1) := by decide +kernel
theorem dL_law_466 : decode code 466 = .ok (.iadd, 1) := by decide +kernel
theorem dL_law_467 : decode code 467 = .ok (.iaload, 1) := by decide +kernel
theorem dL_law_468 : decode code 468 = .ok (.aload_n 0, 1) := by decide +kernel
theorem dL_law_469 : decode code 469 = .ok (.iload 4, 2) := by decide +kernel
theorem dL_law_471 : decode code 471 = .ok (.iconst 4, 1) := by decide +kernel
theorem dL_law_472 : decode code 472 = .ok (.iadd, 1) := by decide +kernel
theorem dL_law_473 : decode code 473 = .ok (.iaload, 1) := by decide +kernel
theorem dL_law_474 : decode code 474 = .ok (.invokevirtual 114, 3) := by decide +kernel
theorem dL_law_477 : decode code 477 = .ok (.aload_n 2, 1) := by decide +kernel
theorem dL_law_478 : decode code 478 = .ok (.invokevirtual 97, 3) := by decide +kernel
theorem dL_law_481 : decode code 481 = .ok (.iload 5, 2) := by decide +kernel
theorem dL_law_483 : decode code 483 = .ok (.if_icmp .eq 5, 3) := by decide +kernel
theorem dL_law_486 : decode code 486 = .ok (.iconst 0, 1) := by decide +kernel
theorem dL_law_487 : decode code 487 = .ok (.ireturn, 1) := by decide +kernel
theorem dL_law_488 : decode code 488 = .ok (.goto 1105, 3) := by decide +kernel
theorem dL_law_491 : decode code 491 = .ok (.aload_n 1, 1) := by decide +kernel
theorem dL_law_492 : decode code 492 = .ok (.aload_n 0, 1) := by decide +kernel
theorem dL_law_493 : decode code 493 = .ok (.iload 4, 2) := by decide +kernel
theorem dL_law_495 : decode code 495 = .ok (.iconst 1, 1) := by decide +kernel
theorem dL_law_496 : decode code 496 = .ok (.iadd, 1) := by decide +kernel
theorem dL_law_497 : decode code 497 = .ok (.iaload, 1) := by decide +kernel
theorem dL_law_498 : decode code 498 = .ok (.aload_n 0, 1) := by decide +kernel
theorem dL_law_499 : decode code 499 = .ok (.iload 4, 2) := by decide +kernel
theorem dL_law_501 : decode code 501 = .ok (.iconst 2, 1) := by decide +kernel
theorem dL_law_502 : decode code 502 = .ok (.iadd, 1) := by decide +kernel
theorem dL_law_503 : decode code 503 = .ok (.iaload, 1) := by decide +kernel
theorem dL_law_504 : decode code 504 = .ok (.aload_n 0, 1) := by decide +kernel
theorem dL_law_505 : decode code 505 = .ok (.iload 4, 2) := by decide +kernel
theorem dL_law_507 : decode code 507 = .ok (.iconst 3, 1) := by decide +kernel
theorem dL_law_508 : decode code 508 = .ok (.iadd, 1) := by decide +kernel
theorem dL_law_509 : decode code 509 = .ok (.iaload, 1) := by decide +kernel
theorem dL_law_510 : decode code 510 = .ok (.aload_n 0, 1) := by decide +kernel
theorem dL_law_511 : decode code 511 = .ok (.iload 4, 2) := by decide +kernel
theorem dL_law_513 : decode code 513 = .ok (.iconst 4, 1) := by decide +kernel
theorem dL_law_514 : decode code 514 = .ok (.iadd, 1) := by decide +kernel
theorem dL_law_515 : decode code 515 = .ok (.iaload, 1) := by decide +kernel
theorem dL_law_516 : decode code 516 = .ok (.aload_n 0, 1) := by decide +kernel
theorem dL_law_517 : decode code 517 = .ok (.iload 4, 2) := by decide +kernel
theorem dL_law_519 : decode code 519 = .ok (.iconst 5, 1) := by decide +kernel
theorem dL_law_520 : decode code 520 = .ok (.iadd, 1) := by decide +kernel
theorem dL_law_521 : decode code 521 = .ok (.iaload, 1) := by decide +kernel
theorem dL_law_522 : decode code 522 = .ok (.aload_n 3, 1) := by decide +kernel
theorem dL_law_523 : decode code 523 = .ok (.invokestatic 115, 3) := by decide +kernel
theorem dL_law_526 : decode code 526 = .ok (.istore 5, 2) := by decide +kernel
theorem dL_law_528 : decode code 528 = .ok (.aload_n 2, 1) := by decide +kernel
theorem dL_law_529 : decode code 529 = .ok (.aload_n 0, 1) := by decide +kernel
theorem dL_law_530 : decode code 530 = .ok (.iload 4, 2) := by decide +kernel
theorem dL_law_532 : decode code 532 = .ok (.iconst 1, 1) := by decide +kernel
theorem dL_law_533 : decode code 533 = .ok (.iadd, 1) := by decide +kernel
theorem dL_law_534 : decode code 534 = .ok (.iaload, 1) := by decide +kernel
theorem dL_law_535 : decode code 535 = .ok (.aload_n 0, 1) := by decide +kernel
theorem dL_law_536 : decode code 536 = .ok (.iload 4, 2) := by decide +kernel
theorem dL_law_538 : decode code 538 = .ok (.iconst 2, 1) := by decide +kernel
theorem dL_law_539 : decode code 539 = .ok (.iadd, 1) := by decide +kernel
theorem dL_law_540 : decode code 540 = .ok (.iaload, 1) := by decide +kernel
theorem dL_law_541 : decode code 541 = .ok (.aload_n 0, 1) := by decide +kernel
theorem dL_law_542 : decode code 542 = .ok (.iload 4, 2) := by decide +kernel
theorem dL_law_544 : decode code 544 = .ok (.iconst 3, 1) := by decide +kernel
theorem dL_law_545 : decode code 545 = .ok (.iadd, 1) := by decide +kernel
theorem dL_law_546 : decode code 546 = .ok (.iaload, 1) := by decide +kernel
theorem dL_law_547 : decode code 547 = .ok (.aload_n 0, 1) := by decide +kernel
theorem dL_law_548 : decode code 548 = .ok (.iload 4, 2) := by decide +kernel
theorem dL_law_550 : decode code 550 = .ok (.iconst 4, 1) := by decide +kernel
theorem dL_law_551 : decode code 551 = .ok (.iadd, 1) := by decide +kernel
theorem dL_law_552 : decode code 552 = .ok (.iaload, 1) := by decide +kernel
theorem dL_law_553 : decode code 553 = .ok (.aload_n 0, 1) := by decide +kernel
theorem dL_law_554 : decode code 554 = .ok (.iload 4, 2) := by decide +kernel
theorem dL_law_556 : decode code 556 = .ok (.iconst 5, 1) := by decide +kernel
theorem dL_law_557 : decode code 557 = .ok (.iadd, 1) := by decide +kernel
theorem dL_law_558 : decode code 558 = .ok (.iaload, 1) := by decide +kernel
theorem dL_law_559 : decode code 559 = .ok (.invokevirtual 118, 3) := by decide +kernel
theorem dL_law_562 : decode code 562 = .ok (.istore 6, 2) := by decide +kernel
theorem dL_law_564 : decode code 564 = .ok (.aload_n 2, 1) := by decide +kernel
theorem dL_law_565 : decode code 565 = .ok (.invokevirtual 97, 3) := by decide +kernel
theorem dL_law_568 : decode code 568 = .ok (.iload 5, 2) := by decide +kernel
theorem dL_law_570 : decode code 570 = .ok (.if_icmp .eq 5, 3) := by decide +kernel
theorem dL_law_573 : decode code 573 = .ok (.iconst 0, 1) := by decide +kernel
theorem dL_law_574 : decode code 574 = .ok (.ireturn, 1) := by decide +kernel
theorem dL_law_575 : decode code 575 = .ok (.iload 5, 2) := by decide +kernel
theorem dL_law_577 : decode code 577 = .ok (.ifCond .ne 15, 3) := by decide +kernel
theorem dL_law_580 : decode code 580 = .ok (.aload_n 3, 1) := by decide +kernel
theorem dL_law_581 : decode code 581 = .ok (.iconst 0, 1) := by decide +kernel
theorem dL_law_582 : decode code 582 = .ok (.laload, 1) := by decide +kernel
theorem dL_law_583 : decode code 583 = .ok (.iload 6, 2) := by decide +kernel
theorem dL_law_585 : decode code 585 = .ok (.i2l, 1) := by decide +kernel
theorem dL_law_586 : decode code 586 = .ok (.lcmp, 1) := by decide +kernel
theorem dL_law_587 : decode code 587 = .ok (.ifCond .eq 5, 3) := by decide +kernel
theorem dL_law_590 : decode code 590 = .ok (.iconst 0, 1) := by decide +kernel
theorem dL_law_591 : decode code 591 = .ok (.ireturn, 1) := by decide +kernel
theorem dL_law_592 : decode code 592 = .ok (.goto 1001, 3) := by decide +kernel
theorem dL_law_595 : decode code 595 = .ok (.aload_n 1, 1) := by decide +kernel
theorem dL_law_596 : decode code 596 = .ok (.aload_n 0, 1) := by decide +kernel
theorem dL_law_597 : decode code 597 = .ok (.iload 4, 2) := by decide +kernel
theorem dL_law_599 : decode code 599 = .ok (.iconst 1, 1) := by decide +kernel
theorem dL_law_600 : decode code 600 = .ok (.iadd, 1) := by decide +kernel
theorem dL_law_601 : decode code 601 = .ok (.iaload, 1) := by decide +kernel
theorem dL_law_602 : decode code 602 = .ok (.aload_n 0, 1) := by decide +kernel
theorem dL_law_603 : decode code 603 = .ok (.iload 4, 2) := by decide +kernel
theorem dL_law_605 : decode code 605 = .ok (.iconst 2, 1) := by decide +kernel
theorem dL_law_606 : decode code 606 = .ok (.iadd, 1) := by decide +kernel
theorem dL_law_607 : decode code 607 = .ok (.iaload, 1) := by decide +kernel
theorem dL_law_608 : decode code 608 = .ok (.aload_n 3, 1) := by decide +kernel
theorem dL_law_609 : decode code 609 = .ok (.invokestatic 119, 3) := by decide +kernel
theorem dL_law_612 : decode code 612 = .ok (.istore 5, 2) := by decide +kernel
theorem dL_law_614 : decode code 614 = .ok (.aload_n 2, 1) := by decide +kernel
theorem dL_law_615 : decode code 615 = .ok (.aload_n 0, 1) := by decide +kernel
theorem dL_law_616 : decode code 616 = .ok (.iload 4, 2) := by decide +kernel
theorem dL_law_618 : decode code 618 = .ok (.iconst 1, 1) := by decide +kernel
theorem dL_law_619 : decode code 619 = .ok (.iadd, 1) := by decide +kernel
theorem dL_law_620 : decode code 620 = .ok (.iaload, 1) := by decide +kernel
theorem dL_law_621 : decode code 621 = .ok (.aload_n 0, 1) := by decide +kernel
theorem dL_law_622 : decode code 622 = .ok (.iload 4, 2) := by decide +kernel
theorem dL_law_624 : decode code 624 = .ok (.iconst 2, 1) := by decide +kernel
theorem dL_law_625 : decode code 625 = .ok (.iadd, 1) := by decide +kernel
theorem dL_law_626 : decode code 626 = .ok (.iaload, 1) := by decide +kernel
theorem dL_law_627 : decode code 627 = .ok (.invokevirtual 121, 3) := by decide +kernel
theorem dL_law_630 : decode code 630 = .ok (.istore 6, 2) := by decide +kernel
theorem dL_law_632 : decode code 632 = .ok (.aload_n 2, 1) := by decide +kernel
theorem dL_law_633 : decode code 633 = .ok (.invokevirtual 97, 3) := by decide +kernel
theorem dL_law_636 : decode code 636 = .ok (.iload 5, 2) := by decide +kernel
theorem dL_law_638 : decode code 638 = .ok (.if_icmp .eq 5, 3) := by decide +kernel
theorem dL_law_641 : decode code 641 = .ok (.iconst 0, 1) := by decide +kernel
theorem dL_law_642 : decode code 642 = .ok (.ireturn, 1) := by decide +kernel
theorem dL_law_643 : decode code 643 = .ok (.iload 5, 2) := by decide +kernel
theorem dL_law_645 : decode code 645 = .ok (.ifCond .ne 22, 3) := by decide +kernel
theorem dL_law_648 : decode code 648 = .ok (.aload_n 3, 1) := by decide +kernel
theorem dL_law_649 : decode code 649 = .ok (.iconst 0, 1) := by decide +kernel
theorem dL_law_650 : decode code 650 = .ok (.laload, 1) := by decide +kernel
theorem dL_law_651 : decode code 651 = .ok (.iload 6, 2) := by decide +kernel
theorem dL_law_653 : decode code 653 = .ok (.ifCond .eq 7, 3) := by decide +kernel
theorem dL_law_656 : decode code 656 = .ok (.lconst 1, 1) := by decide +kernel
theorem dL_law_657 : decode code 657 = .ok (.goto 4, 3) := by decide +kernel
theorem dL_law_660 : decode code 660 = .ok (.lconst 0, 1) := by decide +kernel
theorem dL_law_661 : decode code 661 = .ok (.lcmp, 1) := by decide +kernel
theorem dL_law_662 : decode code 662 = .ok (.ifCond .eq 5, 3) := by decide +kernel
theorem dL_law_665 : decode code 665 = .ok (.iconst 0, 1) := by decide +kernel
theorem dL_law_666 : decode code 666 = .ok (.ireturn, 1) := by decide +kernel
theorem dL_law_667 : decode code 667 = .ok (.goto 926, 3) := by decide +kernel
theorem dL_law_670 : decode code 670 = .ok (.aload_n 1, 1) := by decide +kernel
theorem dL_law_671 : decode code 671 = .ok (.aload_n 0, 1) := by decide +kernel
theorem dL_law_672 : decode code 672 = .ok (.iload 4, 2) := by decide +kernel
theorem dL_law_674 : decode code 674 = .ok (.iconst 1, 1) := by decide +kernel
theorem dL_law_675 : decode code 675 = .ok (.iadd, 1) := by decide +kernel
theorem dL_law_676 : decode code 676 = .ok (.iaload, 1) := by decide +kernel
theorem dL_law_677 : decode code 677 = .ok (.aload_n 3, 1) := by decide +kernel
theorem dL_law_678 : decode code 678 = .ok (.invokestatic 122, 3) := by decide +kernel
theorem dL_law_681 : decode code 681 = .ok (.istore 5, 2) := by decide +kernel
theorem dL_law_683 : decode code 683 = .ok (.aload_n 2, 1) := by decide +kernel
theorem dL_law_684 : decode code 684 = .ok (.aload_n 0, 1) := by decide +kernel
theorem dL_law_685 : decode code 685 = .ok (.iload 4, 2) := by decide +kernel
theorem dL_law_687 : decode code 687 = .ok (.iconst 1, 1) := by decide +kernel
theorem dL_law_688 : decode code 688 = .ok (.iadd, 1) := by decide +kernel
theorem dL_law_689 : decode code 689 = .ok (.iaload, 1) := by decide +kernel
theorem dL_law_690 : decode code 690 = .ok (.invokevirtual 124, 3) := by decide +kernel
theorem dL_law_693 : decode code 693 = .ok (.istore 6, 2) := by decide +kernel
theorem dL_law_695 : decode code 695 = .ok (.aload_n 2, 1) := by decide +kernel
theorem dL_law_696 : decode code 696 = .ok (.invokevirtual 97, 3) := by decide +kernel
theorem dL_law_699 : decode code 699 = .ok (.iload 5, 2) := by decide +kernel
theorem dL_law_701 : decode code 701 = .ok (.if_icmp .eq 5, 3) := by decide +kernel
theorem dL_law_704 : decode code 704 = .ok (.iconst 0, 1) := by decide +kernel
theorem dL_law_705 : decode code 705 = .ok (.ireturn, 1) := by decide +kernel
theorem dL_law_706 : decode code 706 = .ok (.iload 5, 2) := by decide +kernel
theorem dL_law_708 : decode code 708 = .ok (.ifCond .ne 15, 3) := by decide +kernel
theorem dL_law_711 : decode code 711 = .ok (.aload_n 3, 1) := by decide +kernel
theorem dL_law_712 : decode code 712 = .ok (.iconst 0, 1) := by decide +kernel
theorem dL_law_713 : decode code 713 = .ok (.laload, 1) := by decide +kernel
theorem dL_law_714 : decode code 714 = .ok (.iload 6, 2) := by decide +kernel
theorem dL_law_716 : decode code 716 = .ok (.i2l, 1) := by decide +kernel
theorem dL_law_717 : decode code 717 = .ok (.lcmp, 1) := by decide +kernel
theorem dL_law_718 : decode code 718 = .ok (.ifCond .eq 5, 3) := by decide +kernel
theorem dL_law_721 : decode code 721 = .ok (.iconst 0, 1) := by decide +kernel
theorem dL_law_722 : decode code 722 = .ok (.ireturn, 1) := by decide +kernel
theorem dL_law_723 : decode code 723 = .ok (.goto 870, 3) := by decide +kernel
theorem dL_law_726 : decode code 726 = .ok (.aload_n 1, 1) := by decide +kernel
theorem dL_law_727 : decode code 727 = .ok (.aload_n 0, 1) := by decide +kernel
theorem dL_law_728 : decode code 728 = .ok (.iload 4, 2) := by decide +kernel
theorem dL_law_730 : decode code 730 = .ok (.iconst 1, 1) := by decide +kernel
theorem dL_law_731 : decode code 731 = .ok (.iadd, 1) := by decide +kernel
theorem dL_law_732 : decode code 732 = .ok (.iaload, 1) := by decide +kernel
theorem dL_law_733 : decode code 733 = .ok (.aload_n 0, 1) := by decide +kernel
theorem dL_law_734 : decode code 734 = .ok (.iload 4, 2) := by decide +kernel
theorem dL_law_736 : decode code 736 = .ok (.iconst 2, 1) := by decide +kernel
theorem dL_law_737 : decode code 737 = .ok (.iadd, 1) := by decide +kernel
theorem dL_law_738 : decode code 738 = .ok (.iaload, 1) := by decide +kernel
theorem dL_law_739 : decode code 739 = .ok (.aload_n 0, 1) := by decide +kernel
theorem dL_law_740 : decode code 740 = .ok (.iload 4, 2) := by decide +kernel
theorem dL_law_742 : decode code 742 = .ok (.iconst 3, 1) := by decide +kernel
theorem dL_law_743 : decode code 743 = .ok (.iadd, 1) := by decide +kernel
theorem dL_law_744 : decode code 744 = .ok (.iaload, 1) := by decide +kernel
theorem dL_law_745 : decode code 745 = .ok (.aload_n 3, 1) := by decide +kernel
theorem dL_law_746 : decode code 746 = .ok (.invokestatic 125, 3) := by decide +kernel
theorem dL_law_749 : decode code 749 = .ok (.istore 5, 2) := by decide +kernel
theorem dL_law_751 : decode code 751 = .ok (.aload_n 2, 1) := by decide +kernel
theorem dL_law_752 : decode code 752 = .ok (.aload_n 0, 1) := by decide +kernel
theorem dL_law_753 : decode code 753 = .ok (.iload 4, 2) := by decide +kernel
theorem dL_law_755 : decode code 755 = .ok (.iconst 1, 1) := by decide +kernel
theorem dL_law_756 : decode code 756 = .ok (.iadd, 1) := by decide +kernel
theorem dL_law_757 : decode code 757 = .ok (.iaload, 1) := by decide +kernel
theorem dL_law_758 : decode code 758 = .ok (.aload_n 0, 1) := by decide +kernel
theorem dL_law_759 : decode code 759 = .ok (.iload 4, 2) := by decide +kernel
theorem dL_law_761 : decode code 761 = .ok (.iconst 2, 1) := by decide +kernel
theorem dL_law_762 : decode code 762 = .ok (.iadd, 1) := by decide +kernel
theorem dL_law_763 : decode code 763 = .ok (.iaload, 1) := by decide +kernel
theorem dL_law_764 : decode code 764 = .ok (.aload_n 0, 1) := by decide +kernel
theorem dL_law_765 : decode code 765 = .ok (.iload 4, 2) := by decide +kernel
theorem dL_law_767 : decode code 767 = .ok (.iconst 3, 1) := by decide +kernel
theorem dL_law_768 : decode code 768 = .ok (.iadd, 1) := by decide +kernel
theorem dL_law_769 : decode code 769 = .ok (.iaload, 1) := by decide +kernel
theorem dL_law_770 : decode code 770 = .ok (.invokevirtual 128, 3) := by decide +kernel
theorem dL_law_773 : decode code 773 = .ok (.istore 6, 2) := by decide +kernel
theorem dL_law_775 : decode code 775 = .ok (.aload_n 2, 1) := by decide +kernel
theorem dL_law_776 : decode code 776 = .ok (.invokevirtual 97, 3) := by decide +kernel
theorem dL_law_779 : decode code 779 = .ok (.iload 5, 2) := by decide +kernel
theorem dL_law_781 : decode code 781 = .ok (.if_icmp .eq 5, 3) := by decide +kernel
theorem dL_law_784 : decode code 784 = .ok (.iconst 0, 1) := by decide +kernel
theorem dL_law_785 : decode code 785 = .ok (.ireturn, 1) := by decide +kernel
theorem dL_law_786 : decode code 786 = .ok (.iload 5, 2) := by decide +kernel
theorem dL_law_788 : decode code 788 = .ok (.ifCond .ne 15, 3) := by decide +kernel
theorem dL_law_791 : decode code 791 = .ok (.aload_n 3, 1) := by decide +kernel
theorem dL_law_792 : decode code 792 = .ok (.iconst 0, 1) := by decide +kernel
theorem dL_law_793 : decode code 793 = .ok (.laload, 1) := by decide +kernel
theorem dL_law_794 : decode code 794 = .ok (.iload 6, 2) := by decide +kernel
theorem dL_law_796 : decode code 796 = .ok (.i2l, 1) := by decide +kernel
theorem dL_law_797 : decode code 797 = .ok (.lcmp, 1) := by decide +kernel
theorem dL_law_798 : decode code 798 = .ok (.ifCond .eq 5, 3) := by decide +kernel
theorem dL_law_801 : decode code 801 = .ok (.iconst 0, 1) := by decide +kernel
theorem dL_law_802 : decode code 802 = .ok (.ireturn, 1) := by decide +kernel
theorem dL_law_803 : decode code 803 = .ok (.goto 790, 3) := by decide +kernel
theorem dL_law_806 : decode code 806 = .ok (.aload_n 1, 1) := by decide +kernel
theorem dL_law_807 : decode code 807 = .ok (.aload_n 0, 1) := by decide +kernel
theorem dL_law_808 : decode code 808 = .ok (.iload 4, 2) := by decide +kernel
theorem dL_law_810 : decode code 810 = .ok (.iconst 1, 1) := by decide +kernel
theorem dL_law_811 : decode code 811 = .ok (.iadd, 1) := by decide +kernel
theorem dL_law_812 : decode code 812 = .ok (.iaload, 1) := by decide +kernel
theorem dL_law_813 : decode code 813 = .ok (.aload_n 3, 1) := by decide +kernel
theorem dL_law_814 : decode code 814 = .ok (.invokestatic 129, 3) := by decide +kernel
theorem dL_law_817 : decode code 817 = .ok (.istore 5, 2) := by decide +kernel
theorem dL_law_819 : decode code 819 = .ok (.aload_n 2, 1) := by decide +kernel
theorem dL_law_820 : decode code 820 = .ok (.aload_n 0, 1) := by decide +kernel
theorem dL_law_821 : decode code 821 = .ok (.iload 4, 2) := by decide +kernel
theorem dL_law_823 : decode code 823 = .ok (.iconst 1, 1) := by decide +kernel
theorem dL_law_824 : decode code 824 = .ok (.iadd, 1) := by decide +kernel
theorem dL_law_825 : decode code 825 = .ok (.iaload, 1) := by decide +kernel
theorem dL_law_826 : decode code 826 = .ok (.invokevirtual 131, 3) := by decide +kernel
theorem dL_law_829 : decode code 829 = .ok (.istore 6, 2) := by decide +kernel
theorem dL_law_831 : decode code 831 = .ok (.aload_n 2, 1) := by decide +kernel
theorem dL_law_832 : decode code 832 = .ok (.invokevirtual 97, 3) := by decide +kernel
theorem dL_law_835 : decode code 835 = .ok (.iload 5, 2) := by decide +kernel
theorem dL_law_837 : decode code 837 = .ok (.if_icmp .eq 5, 3) := by decide +kernel
theorem dL_law_840 : decode code 840 = .ok (.iconst 0, 1) := by decide +kernel
theorem dL_law_841 : decode code 841 = .ok (.ireturn, 1) := by decide +kernel
theorem dL_law_842 : decode code 842 = .ok (.iload 5, 2) := by decide +kernel
theorem dL_law_844 : decode code 844 = .ok (.ifCond .ne 15, 3) := by decide +kernel
theorem dL_law_847 : decode code 847 = .ok (.aload_n 3, 1) := by decide +kernel
theorem dL_law_848 : decode code 848 = .ok (.iconst 0, 1) := by decide +kernel
theorem dL_law_849 : decode code 849 = .ok (.laload, 1) := by decide +kernel
theorem dL_law_850 : decode code 850 = .ok (.iload 6, 2) := by decide +kernel
theorem dL_law_852 : decode code 852 = .ok (.i2l, 1) := by decide +kernel
theorem dL_law_853 : decode code 853 = .ok (.lcmp, 1) := by decide +kernel
theorem dL_law_854 : decode code 854 = .ok (.ifCond .eq 5, 3) := by decide +kernel
theorem dL_law_857 : decode code 857 = .ok (.iconst 0, 1) := by decide +kernel
theorem dL_law_858 : decode code 858 = .ok (.ireturn, 1) := by decide +kernel
theorem dL_law_859 : decode code 859 = .ok (.goto 734, 3) := by decide +kernel
theorem dL_law_862 : decode code 862 = .ok (.aload_n 1, 1) := by decide +kernel
theorem dL_law_863 : decode code 863 = .ok (.aload_n 0, 1) := by decide +kernel
theorem dL_law_864 : decode code 864 = .ok (.iload 4, 2) := by decide +kernel
theorem dL_law_866 : decode code 866 = .ok (.iconst 1, 1) := by decide +kernel
theorem dL_law_867 : decode code 867 = .ok (.iadd, 1) := by decide +kernel
theorem dL_law_868 : decode code 868 = .ok (.iaload, 1) := by decide +kernel
theorem dL_law_869 : decode code 869 = .ok (.aload_n 3, 1) := by decide +kernel
theorem dL_law_870 : decode code 870 = .ok (.invokestatic 132, 3) := by decide +kernel
theorem dL_law_873 : decode code 873 = .ok (.istore 5, 2) := by decide +kernel
theorem dL_law_875 : decode code 875 = .ok (.aload_n 2, 1) := by decide +kernel
theorem dL_law_876 : decode code 876 = .ok (.aload_n 0, 1) := by decide +kernel
theorem dL_law_877 : decode code 877 = .ok (.iload 4, 2) := by decide +kernel
theorem dL_law_879 : decode code 879 = .ok (.iconst 1, 1) := by decide +kernel
theorem dL_law_880 : decode code 880 = .ok (.iadd, 1) := by decide +kernel
theorem dL_law_881 : decode code 881 = .ok (.iaload, 1) := by decide +kernel
theorem dL_law_882 : decode code 882 = .ok (.invokevirtual 134, 3) := by decide +kernel
theorem dL_law_885 : decode code 885 = .ok (.istore 6, 2) := by decide +kernel
theorem dL_law_887 : decode code 887 = .ok (.aload_n 2, 1) := by decide +kernel
theorem dL_law_888 : decode code 888 = .ok (.invokevirtual 97, 3) := by decide +kernel
theorem dL_law_891 : decode code 891 = .ok (.iload 5, 2) := by decide +kernel
theorem dL_law_893 : decode code 893 = .ok (.if_icmp .eq 5, 3) := by decide +kernel
theorem dL_law_896 : decode code 896 = .ok (.iconst 0, 1) := by decide +kernel
theorem dL_law_897 : decode code 897 = .ok (.ireturn, 1) := by decide +kernel
theorem dL_law_898 : decode code 898 = .ok (.iload 5, 2) := by decide +kernel
theorem dL_law_900 : decode code 900 = .ok (.ifCond .ne 15, 3) := by decide +kernel
theorem dL_law_903 : decode code 903 = .ok (.aload_n 3, 1) := by decide +kernel
theorem dL_law_904 : decode code 904 = .ok (.iconst 0, 1) := by decide +kernel
theorem dL_law_905 : decode code 905 = .ok (.laload, 1) := by decide +kernel
theorem dL_law_906 : decode code 906 = .ok (.iload 6, 2) := by decide +kernel
theorem dL_law_908 : decode code 908 = .ok (.i2l, 1) := by decide +kernel
theorem dL_law_909 : decode code 909 = .ok (.lcmp, 1) := by decide +kernel
theorem dL_law_910 : decode code 910 = .ok (.ifCond .eq 5, 3) := by decide +kernel
theorem dL_law_913 : decode code 913 = .ok (.iconst 0, 1) := by decide +kernel
theorem dL_law_914 : decode code 914 = .ok (.ireturn, 1) := by decide +kernel
theorem dL_law_915 : decode code 915 = .ok (.goto 678, 3) := by decide +kernel
theorem dL_law_918 : decode code 918 = .ok (.aload_n 1, 1) := by decide +kernel
theorem dL_law_919 : decode code 919 = .ok (.aload_n 3, 1) := by decide +kernel
theorem dL_law_920 : decode code 920 = .ok (.invokestatic 135, 3) := by decide +kernel
theorem dL_law_923 : decode code 923 = .ok (.istore 5, 2) := by decide +kernel
theorem dL_law_925 : decode code 925 = .ok (.aload_n 2, 1) := by decide +kernel
theorem dL_law_926 : decode code 926 = .ok (.invokevirtual 138, 3) := by decide +kernel
theorem dL_law_929 : decode code 929 = .ok (.istore 6, 2) := by decide +kernel
theorem dL_law_931 : decode code 931 = .ok (.aload_n 2, 1) := by decide +kernel
theorem dL_law_932 : decode code 932 = .ok (.invokevirtual 97, 3) := by decide +kernel
theorem dL_law_935 : decode code 935 = .ok (.iload 5, 2) := by decide +kernel
theorem dL_law_937 : decode code 937 = .ok (.if_icmp .eq 5, 3) := by decide +kernel
theorem dL_law_940 : decode code 940 = .ok (.iconst 0, 1) := by decide +kernel
theorem dL_law_941 : decode code 941 = .ok (.ireturn, 1) := by decide +kernel
theorem dL_law_942 : decode code 942 = .ok (.iload 5, 2) := by decide +kernel
theorem dL_law_944 : decode code 944 = .ok (.ifCond .ne 15, 3) := by decide +kernel
theorem dL_law_947 : decode code 947 = .ok (.aload_n 3, 1) := by decide +kernel
theorem dL_law_948 : decode code 948 = .ok (.iconst 0, 1) := by decide +kernel
theorem dL_law_949 : decode code 949 = .ok (.laload, 1) := by decide +kernel
theorem dL_law_950 : decode code 950 = .ok (.iload 6, 2) := by decide +kernel
theorem dL_law_952 : decode code 952 = .ok (.i2l, 1) := by decide +kernel
theorem dL_law_953 : decode code 953 = .ok (.lcmp, 1) := by decide +kernel
theorem dL_law_954 : decode code 954 = .ok (.ifCond .eq 5, 3) := by decide +kernel
theorem dL_law_957 : decode code 957 = .ok (.iconst 0, 1) := by decide +kernel
theorem dL_law_958 : decode code 958 = .ok (.ireturn, 1) := by decide +kernel
theorem dL_law_959 : decode code 959 = .ok (.goto 634, 3) := by decide +kernel
theorem dL_law_962 : decode code 962 = .ok (.aload_n 1, 1) := by decide +kernel
theorem dL_law_963 : decode code 963 = .ok (.invokevirtual 139, 3) := by decide +kernel
theorem dL_law_966 : decode code 966 = .ok (.aload_n 2, 1) := by decide +kernel
theorem dL_law_967 : decode code 967 = .ok (.invokevirtual 142, 3) := by decide +kernel
theorem dL_law_970 : decode code 970 = .ok (.if_icmp .eq 623, 3) := by decide +kernel
theorem dL_law_973 : decode code 973 = .ok (.iconst 0, 1) := by decide +kernel
theorem dL_law_974 : decode code 974 = .ok (.ireturn, 1) := by decide +kernel
theorem dL_law_975 : decode code 975 = .ok (.aload_n 1, 1) := by decide +kernel
theorem dL_law_976 : decode code 976 = .ok (.invokevirtual 143, 3) := by decide +kernel
theorem dL_law_979 : decode code 979 = .ok (.aload_n 2, 1) := by decide +kernel
theorem dL_law_980 : decode code 980 = .ok (.invokevirtual 146, 3) := by decide +kernel
theorem dL_law_983 : decode code 983 = .ok (.if_icmp .eq 610, 3) := by decide +kernel
theorem dL_law_986 : decode code 986 = .ok (.iconst 0, 1) := by decide +kernel
theorem dL_law_987 : decode code 987 = .ok (.ireturn, 1) := by decide +kernel
theorem dL_law_988 : decode code 988 = .ok (.aload_n 1, 1) := by decide +kernel
theorem dL_law_989 : decode code 989 = .ok (.invokevirtual 147, 3) := by decide +kernel
theorem dL_law_992 : decode code 992 = .ok (.aload_n 2, 1) := by decide +kernel
theorem dL_law_993 : decode code 993 = .ok (.invokevirtual 150, 3) := by decide +kernel
theorem dL_law_996 : decode code 996 = .ok (.if_icmp .eq 597, 3) := by decide +kernel
theorem dL_law_999 : decode code 999 = .ok (.iconst 0, 1) := by decide +kernel
theorem dL_law_1000 : decode code 1000 = .ok (.ireturn, 1) := by decide +kernel
theorem dL_law_1001 : decode code 1001 = .ok (.aload_n 1, 1) := by decide +kernel
theorem dL_law_1002 : decode code 1002 = .ok (.aload_n 0, 1) := by decide +kernel
theorem dL_law_1003 : decode code 1003 = .ok (.iload 4, 2) := by decide +kernel
theorem dL_law_1005 : decode code 1005 = .ok (.iconst 1, 1) := by decide +kernel
theorem dL_law_1006 : decode code 1006 = .ok (.iadd, 1) := by decide +kernel
theorem dL_law_1007 : decode code 1007 = .ok (.iaload, 1) := by decide +kernel
theorem dL_law_1008 : decode code 1008 = .ok (.aload_n 0, 1) := by decide +kernel
theorem dL_law_1009 : decode code 1009 = .ok (.iload 4, 2) := by decide +kernel
theorem dL_law_1011 : decode code 1011 = .ok (.iconst 2, 1) := by decide +kernel
theorem dL_law_1012 : decode code 1012 = .ok (.iadd, 1) := by decide +kernel
theorem dL_law_1013 : decode code 1013 = .ok (.iaload, 1) := by decide +kernel
theorem dL_law_1014 : decode code 1014 = .ok (.aload_n 3, 1) := by decide +kernel
theorem dL_law_1015 : decode code 1015 = .ok (.invokestatic 151, 3) := by decide +kernel
theorem dL_law_1018 : decode code 1018 = .ok (.istore 5, 2) := by decide +kernel
theorem dL_law_1020 : decode code 1020 = .ok (.aload_n 2, 1) := by decide +kernel
theorem dL_law_1021 : decode code 1021 = .ok (.aload_n 0, 1) := by decide +kernel
theorem dL_law_1022 : decode code 1022 = .ok (.iload 4, 2) := by decide +kernel
theorem dL_law_1024 : decode code 1024 = .ok (.iconst 1, 1) := by decide +kernel
theorem dL_law_1025 : decode code 1025 = .ok (.iadd, 1) := by decide +kernel
theorem dL_law_1026 : decode code 1026 = .ok (.iaload, 1) := by decide +kernel
theorem dL_law_1027 : decode code 1027 = .ok (.aload_n 0, 1) := by decide +kernel
theorem dL_law_1028 : decode code 1028 = .ok (.iload 4, 2) := by decide +kernel
theorem dL_law_1030 : decode code 1030 = .ok (.iconst 2, 1) := by decide +kernel
theorem dL_law_1031 : decode code 1031 = .ok (.iadd, 1) := by decide +kernel
theorem dL_law_1032 : decode code 1032 = .ok (.iaload, 1) := by decide +kernel
theorem dL_law_1033 : decode code 1033 = .ok (.invokevirtual 153, 3) := by decide +kernel
theorem dL_law_1036 : decode code 1036 = .ok (.istore 6, 2) := by decide +kernel
theorem dL_law_1038 : decode code 1038 = .ok (.aload_n 2, 1) := by decide +kernel
theorem dL_law_1039 : decode code 1039 = .ok (.invokevirtual 97, 3) := by decide +kernel
theorem dL_law_1042 : decode code 1042 = .ok (.iload 5, 2) := by decide +kernel
theorem dL_law_1044 : decode code 1044 = .ok (.if_icmp .eq 5, 3) := by decide +kernel
theorem dL_law_1047 : decode code 1047 = .ok (.iconst 0, 1) := by decide +kernel
theorem dL_law_1048 : decode code 1048 = .ok (.ireturn, 1) := by decide +kernel
theorem dL_law_1049 : decode code 1049 = .ok (.iload 5, 2) := by decide +kernel
theorem dL_law_1051 : decode code 1051 = .ok (.ifCond .ne 15, 3) := by decide +kernel
theorem dL_law_1054 : decode code 1054 = .ok (.aload_n 3, 1) := by decide +kernel
theorem dL_law_1055 : decode code 1055 = .ok (.iconst 0, 1) := by decide +kernel
theorem dL_law_1056 : decode code 1056 = .ok (.laload, 1) := by decide +kernel
theorem dL_law_1057 : decode code 1057 = .ok (.iload 6, 2) := by decide +kernel
theorem dL_law_1059 : decode code 1059 = .ok (.i2l, 1) := by decide +kernel
theorem dL_law_1060 : decode code 1060 = .ok (.lcmp, 1) := by decide +kernel
theorem dL_law_1061 : decode code 1061 = .ok (.ifCond .eq 5, 3) := by decide +kernel
theorem dL_law_1064 : decode code 1064 = .ok (.iconst 0, 1) := by decide +kernel
theorem dL_law_1065 : decode code 1065 = .ok (.ireturn, 1) := by decide +kernel
theorem dL_law_1066 : decode code 1066 = .ok (.goto 527, 3) := by decide +kernel
theorem dL_law_1069 : decode code 1069 = .ok (.aload_n 1, 1) := by decide +kernel
theorem dL_law_1070 : decode code 1070 = .ok (.aload_n 0, 1) := by decide +kernel
theorem dL_law_1071 : decode code 1071 = .ok (.iload 4, 2) := by decide +kernel
theorem dL_law_1073 : decode code 1073 = .ok (.iconst 1, 1) := by decide +kernel
theorem dL_law_1074 : decode code 1074 = .ok (.iadd, 1) := by decide +kernel
theorem dL_law_1075 : decode code 1075 = .ok (.iaload, 1) := by decide +kernel
theorem dL_law_1076 : decode code 1076 = .ok (.aload_n 3, 1) := by decide +kernel
theorem dL_law_1077 : decode code 1077 = .ok (.invokestatic 154, 3) := by decide +kernel
theorem dL_law_1080 : decode code 1080 = .ok (.istore 5, 2) := by decide +kernel
theorem dL_law_1082 : decode code 1082 = .ok (.aload_n 2, 1) := by decide +kernel
theorem dL_law_1083 : decode code 1083 = .ok (.aload_n 0, 1) := by decide +kernel
theorem dL_law_1084 : decode code 1084 = .ok (.iload 4, 2) := by decide +kernel
theorem dL_law_1086 : decode code 1086 = .ok (.iconst 1, 1) := by decide +kernel
theorem dL_law_1087 : decode code 1087 = .ok (.iadd, 1) := by decide +kernel
theorem dL_law_1088 : decode code 1088 = .ok (.iaload, 1) := by decide +kernel
theorem dL_law_1089 : decode code 1089 = .ok (.invokevirtual 156, 3) := by decide +kernel
theorem dL_law_1092 : decode code 1092 = .ok (.istore 6, 2) := by decide +kernel
theorem dL_law_1094 : decode code 1094 = .ok (.aload_n 2, 1) := by decide +kernel
theorem dL_law_1095 : decode code 1095 = .ok (.invokevirtual 97, 3) := by decide +kernel
theorem dL_law_1098 : decode code 1098 = .ok (.iload 5, 2) := by decide +kernel
theorem dL_law_1100 : decode code 1100 = .ok (.if_icmp .eq 5, 3) := by decide +kernel
theorem dL_law_1103 : decode code 1103 = .ok (.iconst 0, 1) := by decide +kernel
theorem dL_law_1104 : decode code 1104 = .ok (.ireturn, 1) := by decide +kernel
theorem dL_law_1105 : decode code 1105 = .ok (.iload 5, 2) := by decide +kernel
theorem dL_law_1107 : decode code 1107 = .ok (.ifCond .ne 15, 3) := by decide +kernel
theorem dL_law_1110 : decode code 1110 = .ok (.aload_n 3, 1) := by decide +kernel
theorem dL_law_1111 : decode code 1111 = .ok (.iconst 0, 1) := by decide +kernel
theorem dL_law_1112 : decode code 1112 = .ok (.laload, 1) := by decide +kernel
theorem dL_law_1113 : decode code 1113 = .ok (.iload 6, 2) := by decide +kernel
theorem dL_law_1115 : decode code 1115 = .ok (.i2l, 1) := by decide +kernel
theorem dL_law_1116 : decode code 1116 = .ok (.lcmp, 1) := by decide +kernel
theorem dL_law_1117 : decode code 1117 = .ok (.ifCond .eq 5, 3) := by decide +kernel
theorem dL_law_1120 : decode code 1120 = .ok (.iconst 0, 1) := by decide +kernel
theorem dL_law_1121 : decode code 1121 = .ok (.ireturn, 1) := by decide +kernel
theorem dL_law_1122 : decode code 1122 = .ok (.goto 471, 3) := by decide +kernel
theorem dL_law_1125 : decode code 1125 = .ok (.aload_n 1, 1) := by decide +kernel
theorem dL_law_1126 : decode code 1126 = .ok (.aload_n 0, 1) := by decide +kernel
theorem dL_law_1127 : decode code 1127 = .ok (.iload 4, 2) := by decide +kernel
theorem dL_law_1129 : decode code 1129 = .ok (.iconst 1, 1) := by decide +kernel
theorem dL_law_1130 : decode code 1130 = .ok (.iadd, 1) := by decide +kernel
theorem dL_law_1131 : decode code 1131 = .ok (.iaload, 1) := by decide +kernel
theorem dL_law_1132 : decode code 1132 = .ok (.aload_n 0, 1) := by decide +kernel
theorem dL_law_1133 : decode code 1133 = .ok (.iload 4, 2) := by decide +kernel
theorem dL_law_1135 : decode code 1135 = .ok (.iconst 2, 1) := by decide +kernel
theorem dL_law_1136 : decode code 1136 = .ok (.iadd, 1) := by decide +kernel
theorem dL_law_1137 : decode code 1137 = .ok (.iaload, 1) := by decide +kernel
theorem dL_law_1138 : decode code 1138 = .ok (.aload_n 3, 1) := by decide +kernel
theorem dL_law_1139 : decode code 1139 = .ok (.invokestatic 157, 3) := by decide +kernel
theorem dL_law_1142 : decode code 1142 = .ok (.istore 5, 2) := by decide +kernel
theorem dL_law_1144 : decode code 1144 = .ok (.aload_n 2, 1) := by decide +kernel
theorem dL_law_1145 : decode code 1145 = .ok (.aload_n 0, 1) := by decide +kernel
theorem dL_law_1146 : decode code 1146 = .ok (.iload 4, 2) := by decide +kernel
theorem dL_law_1148 : decode code 1148 = .ok (.iconst 1, 1) := by decide +kernel
theorem dL_law_1149 : decode code 1149 = .ok (.iadd, 1) := by decide +kernel
theorem dL_law_1150 : decode code 1150 = .ok (.iaload, 1) := by decide +kernel
theorem dL_law_1151 : decode code 1151 = .ok (.aload_n 0, 1) := by decide +kernel
theorem dL_law_1152 : decode code 1152 = .ok (.iload 4, 2) := by decide +kernel
theorem dL_law_1154 : decode code 1154 = .ok (.iconst 2, 1) := by decide +kernel
theorem dL_law_1155 : decode code 1155 = .ok (.iadd, 1) := by decide +kernel
theorem dL_law_1156 : decode code 1156 = .ok (.iaload, 1) := by decide +kernel
theorem dL_law_1157 : decode code 1157 = .ok (.invokevirtual 159, 3) := by decide +kernel
theorem dL_law_1160 : decode code 1160 = .ok (.istore 6, 2) := by decide +kernel
theorem dL_law_1162 : decode code 1162 = .ok (.aload_n 2, 1) := by decide +kernel
theorem dL_law_1163 : decode code 1163 = .ok (.invokevirtual 97, 3) := by decide +kernel
theorem dL_law_1166 : decode code 1166 = .ok (.iload 5, 2) := by decide +kernel
theorem dL_law_1168 : decode code 1168 = .ok (.if_icmp .eq 5, 3) := by decide +kernel
theorem dL_law_1171 : decode code 1171 = .ok (.iconst 0, 1) := by decide +kernel
theorem dL_law_1172 : decode code 1172 = .ok (.ireturn, 1) := by decide +kernel
theorem dL_law_1173 : decode code 1173 = .ok (.iload 5, 2) := by decide +kernel
theorem dL_law_1175 : decode code 1175 = .ok (.ifCond .ne 15, 3) := by decide +kernel
theorem dL_law_1178 : decode code 1178 = .ok (.aload_n 3, 1) := by decide +kernel
theorem dL_law_1179 : decode code 1179 = .ok (.iconst 0, 1) := by decide +kernel
theorem dL_law_1180 : decode code 1180 = .ok (.laload, 1) := by decide +kernel
theorem dL_law_1181 : decode code 1181 = .ok (.iload 6, 2) := by decide +kernel
theorem dL_law_1183 : decode code 1183 = .ok (.i2l, 1) := by decide +kernel
theorem dL_law_1184 : decode code 1184 = .ok (.lcmp, 1) := by decide +kernel
theorem dL_law_1185 : decode code 1185 = .ok (.ifCond .eq 5, 3) := by decide +kernel
theorem dL_law_1188 : decode code 1188 = .ok (.iconst 0, 1) := by decide +kernel
theorem dL_law_1189 : decode code 1189 = .ok (.ireturn, 1) := by decide +kernel
theorem dL_law_1190 : decode code 1190 = .ok (.goto 403, 3) := by decide +kernel
theorem dL_law_1193 : decode code 1193 = .ok (.aload_n 1, 1) := by decide +kernel
theorem dL_law_1194 : decode code 1194 = .ok (.aload_n 0, 1) := by decide +kernel
theorem dL_law_1195 : decode code 1195 = .ok (.iload 4, 2) := by decide +kernel
theorem dL_law_1197 : decode code 1197 = .ok (.iconst 1, 1) := by decide +kernel
theorem dL_law_1198 : decode code 1198 = .ok (.iadd, 1) := by decide +kernel
theorem dL_law_1199 : decode code 1199 = .ok (.iaload, 1) := by decide +kernel
theorem dL_law_1200 : decode code 1200 = .ok (.aload_n 3, 1) := by decide +kernel
theorem dL_law_1201 : decode code 1201 = .ok (.invokestatic 160, 3) := by decide +kernel
theorem dL_law_1204 : decode code 1204 = .ok (.istore 5, 2) := by decide +kernel
theorem dL_law_1206 : decode code 1206 = .ok (.aload_n 2, 1) := by decide +kernel
theorem dL_law_1207 : decode code 1207 = .ok (.aload_n 0, 1) := by decide +kernel
theorem dL_law_1208 : decode code 1208 = .ok (.iload 4, 2) := by decide +kernel
theorem dL_law_1210 : decode code 1210 = .ok (.iconst 1, 1) := by decide +kernel
theorem dL_law_1211 : decode code 1211 = .ok (.iadd, 1) := by decide +kernel
theorem dL_law_1212 : decode code 1212 = .ok (.iaload, 1) := by decide +kernel
theorem dL_law_1213 : decode code 1213 = .ok (.invokevirtual 162, 3) := by decide +kernel
theorem dL_law_1216 : decode code 1216 = .ok (.istore 6, 2) := by decide +kernel
theorem dL_law_1218 : decode code 1218 = .ok (.aload_n 2, 1) := by decide +kernel
theorem dL_law_1219 : decode code 1219 = .ok (.invokevirtual 97, 3) := by decide +kernel
theorem dL_law_1222 : decode code 1222 = .ok (.iload 5, 2) := by decide +kernel
theorem dL_law_1224 : decode code 1224 = .ok (.if_icmp .eq 5, 3) := by decide +kernel
theorem dL_law_1227 : decode code 1227 = .ok (.iconst 0, 1) := by decide +kernel
theorem dL_law_1228 : decode code 1228 = .ok (.ireturn, 1) := by decide +kernel
theorem dL_law_1229 : decode code 1229 = .ok (.iload 5, 2) := by decide +kernel
theorem dL_law_1231 : decode code 1231 = .ok (.ifCond .ne 15, 3) := by decide +kernel
theorem dL_law_1234 : decode code 1234 = .ok (.aload_n 3, 1) := by decide +kernel
theorem dL_law_1235 : decode code 1235 = .ok (.iconst 0, 1) := by decide +kernel
theorem dL_law_1236 : decode code 1236 = .ok (.laload, 1) := by decide +kernel
theorem dL_law_1237 : decode code 1237 = .ok (.iload 6, 2) := by decide +kernel
theorem dL_law_1239 : decode code 1239 = .ok (.i2l, 1) := by decide +kernel
theorem dL_law_1240 : decode code 1240 = .ok (.lcmp, 1) := by decide +kernel
theorem dL_law_1241 : decode code 1241 = .ok (.ifCond .eq 5, 3) := by decide +kernel
theorem dL_law_1244 : decode code 1244 = .ok (.iconst 0, 1) := by decide +kernel
theorem dL_law_1245 : decode code 1245 = .ok (.ireturn, 1) := by decide +kernel
theorem dL_law_1246 : decode code 1246 = .ok (.goto 347, 3) := by decide +kernel
theorem dL_law_1249 : decode code 1249 = .ok (.aload_n 1, 1) := by decide +kernel
theorem dL_law_1250 : decode code 1250 = .ok (.aload_n 0, 1) := by decide +kernel
theorem dL_law_1251 : decode code 1251 = .ok (.iload 4, 2) := by decide +kernel
theorem dL_law_1253 : decode code 1253 = .ok (.iconst 1, 1) := by decide +kernel
theorem dL_law_1254 : decode code 1254 = .ok (.iadd, 1) := by decide +kernel
theorem dL_law_1255 : decode code 1255 = .ok (.iaload, 1) := by decide +kernel
theorem dL_law_1256 : decode code 1256 = .ok (.aload_n 3, 1) := by decide +kernel
theorem dL_law_1257 : decode code 1257 = .ok (.invokestatic 163, 3) := by decide +kernel
theorem dL_law_1260 : decode code 1260 = .ok (.istore 5, 2) := by decide +kernel
theorem dL_law_1262 : decode code 1262 = .ok (.aload_n 2, 1) := by decide +kernel
theorem dL_law_1263 : decode code 1263 = .ok (.aload_n 0, 1) := by decide +kernel
theorem dL_law_1264 : decode code 1264 = .ok (.iload 4, 2) := by decide +kernel
theorem dL_law_1266 : decode code 1266 = .ok (.iconst 1, 1) := by decide +kernel
theorem dL_law_1267 : decode code 1267 = .ok (.iadd, 1) := by decide +kernel
theorem dL_law_1268 : decode code 1268 = .ok (.iaload, 1) := by decide +kernel
theorem dL_law_1269 : decode code 1269 = .ok (.invokevirtual 165, 3) := by decide +kernel
theorem dL_law_1272 : decode code 1272 = .ok (.istore 6, 2) := by decide +kernel
theorem dL_law_1274 : decode code 1274 = .ok (.aload_n 2, 1) := by decide +kernel
theorem dL_law_1275 : decode code 1275 = .ok (.invokevirtual 97, 3) := by decide +kernel
theorem dL_law_1278 : decode code 1278 = .ok (.iload 5, 2) := by decide +kernel
theorem dL_law_1280 : decode code 1280 = .ok (.if_icmp .eq 5, 3) := by decide +kernel
theorem dL_law_1283 : decode code 1283 = .ok (.iconst 0, 1) := by decide +kernel
theorem dL_law_1284 : decode code 1284 = .ok (.ireturn, 1) := by decide +kernel
theorem dL_law_1285 : decode code 1285 = .ok (.iload 5, 2) := by decide +kernel
theorem dL_law_1287 : decode code 1287 = .ok (.ifCond .ne 15, 3) := by decide +kernel
theorem dL_law_1290 : decode code 1290 = .ok (.aload_n 3, 1) := by decide +kernel
theorem dL_law_1291 : decode code 1291 = .ok (.iconst 0, 1) := by decide +kernel
theorem dL_law_1292 : decode code 1292 = .ok (.laload, 1) := by decide +kernel
theorem dL_law_1293 : decode code 1293 = .ok (.iload 6, 2) := by decide +kernel
theorem dL_law_1295 : decode code 1295 = .ok (.i2l, 1) := by decide +kernel
theorem dL_law_1296 : decode code 1296 = .ok (.lcmp, 1) := by decide +kernel
theorem dL_law_1297 : decode code 1297 = .ok (.ifCond .eq 5, 3) := by decide +kernel
theorem dL_law_1300 : decode code 1300 = .ok (.iconst 0, 1) := by decide +kernel
theorem dL_law_1301 : decode code 1301 = .ok (.ireturn, 1) := by decide +kernel
theorem dL_law_1302 : decode code 1302 = .ok (.goto 291, 3) := by decide +kernel
theorem dL_law_1305 : decode code 1305 = .ok (.aload_n 1, 1) := by decide +kernel
theorem dL_law_1306 : decode code 1306 = .ok (.aload_n 0, 1) := by decide +kernel
theorem dL_law_1307 : decode code 1307 = .ok (.iload 4, 2) := by decide +kernel
theorem dL_law_1309 : decode code 1309 = .ok (.iconst 1, 1) := by decide +kernel
theorem dL_law_1310 : decode code 1310 = .ok (.iadd, 1) := by decide +kernel
theorem dL_law_1311 : decode code 1311 = .ok (.iaload, 1) := by decide +kernel
theorem dL_law_1312 : decode code 1312 = .ok (.aload_n 3, 1) := by decide +kernel
theorem dL_law_1313 : decode code 1313 = .ok (.invokestatic 166, 3) := by decide +kernel
theorem dL_law_1316 : decode code 1316 = .ok (.istore 5, 2) := by decide +kernel
theorem dL_law_1318 : decode code 1318 = .ok (.aload_n 2, 1) := by decide +kernel
theorem dL_law_1319 : decode code 1319 = .ok (.aload_n 0, 1) := by decide +kernel
theorem dL_law_1320 : decode code 1320 = .ok (.iload 4, 2) := by decide +kernel
theorem dL_law_1322 : decode code 1322 = .ok (.iconst 1, 1) := by decide +kernel
theorem dL_law_1323 : decode code 1323 = .ok (.iadd, 1) := by decide +kernel
theorem dL_law_1324 : decode code 1324 = .ok (.iaload, 1) := by decide +kernel
theorem dL_law_1325 : decode code 1325 = .ok (.invokevirtual 168, 3) := by decide +kernel
theorem dL_law_1328 : decode code 1328 = .ok (.istore 6, 2) := by decide +kernel
theorem dL_law_1330 : decode code 1330 = .ok (.aload_n 2, 1) := by decide +kernel
theorem dL_law_1331 : decode code 1331 = .ok (.invokevirtual 97, 3) := by decide +kernel
theorem dL_law_1334 : decode code 1334 = .ok (.iload 5, 2) := by decide +kernel
theorem dL_law_1336 : decode code 1336 = .ok (.if_icmp .eq 5, 3) := by decide +kernel
theorem dL_law_1339 : decode code 1339 = .ok (.iconst 0, 1) := by decide +kernel
theorem dL_law_1340 : decode code 1340 = .ok (.ireturn, 1) := by decide +kernel
theorem dL_law_1341 : decode code 1341 = .ok (.iload 5, 2) := by decide +kernel
theorem dL_law_1343 : decode code 1343 = .ok (.ifCond .ne 15, 3) := by decide +kernel
theorem dL_law_1346 : decode code 1346 = .ok (.aload_n 3, 1) := by decide +kernel
theorem dL_law_1347 : decode code 1347 = .ok (.iconst 0, 1) := by decide +kernel
theorem dL_law_1348 : decode code 1348 = .ok (.laload, 1) := by decide +kernel
theorem dL_law_1349 : decode code 1349 = .ok (.iload 6, 2) := by decide +kernel
theorem dL_law_1351 : decode code 1351 = .ok (.i2l, 1) := by decide +kernel
theorem dL_law_1352 : decode code 1352 = .ok (.lcmp, 1) := by decide +kernel
theorem dL_law_1353 : decode code 1353 = .ok (.ifCond .eq 5, 3) := by decide +kernel
theorem dL_law_1356 : decode code 1356 = .ok (.iconst 0, 1) := by decide +kernel
theorem dL_law_1357 : decode code 1357 = .ok (.ireturn, 1) := by decide +kernel
theorem dL_law_1358 : decode code 1358 = .ok (.goto 235, 3) := by decide +kernel
theorem dL_law_1361 : decode code 1361 = .ok (.aload_n 1, 1) := by decide +kernel
theorem dL_law_1362 : decode code 1362 = .ok (.invokevirtual 169, 3) := by decide +kernel
theorem dL_law_1365 : decode code 1365 = .ok (.aload_n 2, 1) := by decide +kernel
theorem dL_law_1366 : decode code 1366 = .ok (.invokevirtual 172, 3) := by decide +kernel
theorem dL_law_1369 : decode code 1369 = .ok (.if_icmp .eq 224, 3) := by decide +kernel
theorem dL_law_1372 : decode code 1372 = .ok (.iconst 0, 1) := by decide +kernel
theorem dL_law_1373 : decode code 1373 = .ok (.ireturn, 1) := by decide +kernel
theorem dL_law_1374 : decode code 1374 = .ok (.aload_n 1, 1) := by decide +kernel
theorem dL_law_1375 : decode code 1375 = .ok (.aload_n 0, 1) := by decide +kernel
theorem dL_law_1376 : decode code 1376 = .ok (.iload 4, 2) := by decide +kernel
theorem dL_law_1378 : decode code 1378 = .ok (.iconst 1, 1) := by decide +kernel
theorem dL_law_1379 : decode code 1379 = .ok (.iadd, 1) := by decide +kernel
theorem dL_law_1380 : decode code 1380 = .ok (.iaload, 1) := by decide +kernel
theorem dL_law_1381 : decode code 1381 = .ok (.aload_n 3, 1) := by decide +kernel
theorem dL_law_1382 : decode code 1382 = .ok (.invokestatic 173, 3) := by decide +kernel
theorem dL_law_1385 : decode code 1385 = .ok (.istore 5, 2) := by decide +kernel
theorem dL_law_1387 : decode code 1387 = .ok (.aload_n 2, 1) := by decide +kernel
theorem dL_law_1388 : decode code 1388 = .ok (.aload_n 0, 1) := by decide +kernel
theorem dL_law_1389 : decode code 1389 = .ok (.iload 4, 2) := by decide +kernel
theorem dL_law_1391 : decode code 1391 = .ok (.iconst 1, 1) := by decide +kernel
theorem dL_law_1392 : decode code 1392 = .ok (.iadd, 1) := by decide +kernel
theorem dL_law_1393 : decode code 1393 = .ok (.iaload, 1) := by decide +kernel
theorem dL_law_1394 : decode code 1394 = .ok (.invokevirtual 175, 3) := by decide +kernel
theorem dL_law_1397 : decode code 1397 = .ok (.istore 6, 2) := by decide +kernel
theorem dL_law_1399 : decode code 1399 = .ok (.aload_n 2, 1) := by decide +kernel
theorem dL_law_1400 : decode code 1400 = .ok (.invokevirtual 97, 3) := by decide +kernel
theorem dL_law_1403 : decode code 1403 = .ok (.iload 5, 2) := by decide +kernel
theorem dL_law_1405 : decode code 1405 = .ok (.if_icmp .eq 5, 3) := by decide +kernel
theorem dL_law_1408 : decode code 1408 = .ok (.iconst 0, 1) := by decide +kernel
theorem dL_law_1409 : decode code 1409 = .ok (.ireturn, 1) := by decide +kernel
theorem dL_law_1410 : decode code 1410 = .ok (.iload 5, 2) := by decide +kernel
theorem dL_law_1412 : decode code 1412 = .ok (.ifCond .ne 15, 3) := by decide +kernel
theorem dL_law_1415 : decode code 1415 = .ok (.aload_n 3, 1) := by decide +kernel
theorem dL_law_1416 : decode code 1416 = .ok (.iconst 0, 1) := by decide +kernel
theorem dL_law_1417 : decode code 1417 = .ok (.laload, 1) := by decide +kernel
theorem dL_law_1418 : decode code 1418 = .ok (.iload 6, 2) := by decide +kernel
theorem dL_law_1420 : decode code 1420 = .ok (.i2l, 1) := by decide +kernel
theorem dL_law_1421 : decode code 1421 = .ok (.lcmp, 1) := by decide +kernel
theorem dL_law_1422 : decode code 1422 = .ok (.ifCond .eq 5, 3) := by decide +kernel
theorem dL_law_1425 : decode code 1425 = .ok (.iconst 0, 1) := by decide +kernel
theorem dL_law_1426 : decode code 1426 = .ok (.ireturn, 1) := by decide +kernel
theorem dL_law_1427 : decode code 1427 = .ok (.goto 166, 3) := by decide +kernel
theorem dL_law_1430 : decode code 1430 = .ok (.aload_n 1, 1) := by decide +kernel
theorem dL_law_1431 : decode code 1431 = .ok (.invokevirtual 176, 3) := by decide +kernel
theorem dL_law_1434 : decode code 1434 = .ok (.aload_n 2, 1) := by decide +kernel
theorem dL_law_1435 : decode code 1435 = .ok (.invokevirtual 179, 3) := by decide +kernel
theorem dL_law_1438 : decode code 1438 = .ok (.if_icmp .eq 155, 3) := by decide +kernel
theorem dL_law_1441 : decode code 1441 = .ok (.iconst 0, 1) := by decide +kernel
theorem dL_law_1442 : decode code 1442 = .ok (.ireturn, 1) := by decide +kernel
theorem dL_law_1443 : decode code 1443 = .ok (.aload_n 1, 1) := by decide +kernel
theorem dL_law_1444 : decode code 1444 = .ok (.aload_n 0, 1) := by decide +kernel
theorem dL_law_1445 : decode code 1445 = .ok (.iload 4, 2) := by decide +kernel
theorem dL_law_1447 : decode code 1447 = .ok (.iconst 1, 1) := by decide +kernel
theorem dL_law_1448 : decode code 1448 = .ok (.iadd, 1) := by decide +kernel
theorem dL_law_1449 : decode code 1449 = .ok (.iaload, 1) := by decide +kernel
theorem dL_law_1450 : decode code 1450 = .ok (.aload_n 0, 1) := by decide +kernel
theorem dL_law_1451 : decode code 1451 = .ok (.iload 4, 2) := by decide +kernel
theorem dL_law_1453 : decode code 1453 = .ok (.iconst 2, 1) := by decide +kernel
theorem dL_law_1454 : decode code 1454 = .ok (.iadd, 1) := by decide +kernel
theorem dL_law_1455 : decode code 1455 = .ok (.iaload, 1) := by decide +kernel
theorem dL_law_1456 : decode code 1456 = .ok (.aload_n 3, 1) := by decide +kernel
theorem dL_law_1457 : decode code 1457 = .ok (.invokestatic 180, 3) := by decide +kernel
theorem dL_law_1460 : decode code 1460 = .ok (.istore 5, 2) := by decide +kernel
theorem dL_law_1462 : decode code 1462 = .ok (.aload_n 2, 1) := by decide +kernel
theorem dL_law_1463 : decode code 1463 = .ok (.aload_n 0, 1) := by decide +kernel
theorem dL_law_1464 : decode code 1464 = .ok (.iload 4, 2) := by decide +kernel
theorem dL_law_1466 : decode code 1466 = .ok (.iconst 1, 1) := by decide +kernel
theorem dL_law_1467 : decode code 1467 = .ok (.iadd, 1) := by decide +kernel
theorem dL_law_1468 : decode code 1468 = .ok (.iaload, 1) := by decide +kernel
theorem dL_law_1469 : decode code 1469 = .ok (.aload_n 0, 1) := by decide +kernel
theorem dL_law_1470 : decode code 1470 = .ok (.iload 4, 2) := by decide +kernel
theorem dL_law_1472 : decode code 1472 = .ok (.iconst 2, 1) := by decide +kernel
theorem dL_law_1473 : decode code 1473 = .ok (.iadd, 1) := by decide +kernel
theorem dL_law_1474 : decode code 1474 = .ok (.iaload, 1) := by decide +kernel
theorem dL_law_1475 : decode code 1475 = .ok (.invokevirtual 182, 3) := by decide +kernel
theorem dL_law_1478 : decode code 1478 = .ok (.istore 6, 2) := by decide +kernel
theorem dL_law_1480 : decode code 1480 = .ok (.aload_n 2, 1) := by decide +kernel
theorem dL_law_1481 : decode code 1481 = .ok (.invokevirtual 97, 3) := by decide +kernel
theorem dL_law_1484 : decode code 1484 = .ok (.iload 5, 2) := by decide +kernel
theorem dL_law_1486 : decode code 1486 = .ok (.if_icmp .eq 5, 3) := by decide +kernel
theorem dL_law_1489 : decode code 1489 = .ok (.iconst 0, 1) := by decide +kernel
theorem dL_law_1490 : decode code 1490 = .ok (.ireturn, 1) := by decide +kernel
theorem dL_law_1491 : decode code 1491 = .ok (.iload 5, 2) := by decide +kernel
theorem dL_law_1493 : decode code 1493 = .ok (.ifCond .ne 22, 3) := by decide +kernel
theorem dL_law_1496 : decode code 1496 = .ok (.aload_n 3, 1) := by decide +kernel
theorem dL_law_1497 : decode code 1497 = .ok (.iconst 0, 1) := by decide +kernel
theorem dL_law_1498 : decode code 1498 = .ok (.laload, 1) := by decide +kernel
theorem dL_law_1499 : decode code 1499 = .ok (.iload 6, 2) := by decide +kernel
theorem dL_law_1501 : decode code 1501 = .ok (.ifCond .eq 7, 3) := by decide +kernel
theorem dL_law_1504 : decode code 1504 = .ok (.lconst 1, 1) := by decide +kernel
theorem dL_law_1505 : decode code 1505 = .ok (.goto 4, 3) := by decide +kernel
theorem dL_law_1508 : decode code 1508 = .ok (.lconst 0, 1) := by decide +kernel
theorem dL_law_1509 : decode code 1509 = .ok (.lcmp, 1) := by decide +kernel
theorem dL_law_1510 : decode code 1510 = .ok (.ifCond .eq 5, 3) := by decide +kernel
theorem dL_law_1513 : decode code 1513 = .ok (.iconst 0, 1) := by decide +kernel
theorem dL_law_1514 : decode code 1514 = .ok (.ireturn, 1) := by decide +kernel
theorem dL_law_1515 : decode code 1515 = .ok (.goto 78, 3) := by decide +kernel
theorem dL_law_1518 : decode code 1518 = .ok (.aload_n 1, 1) := by decide +kernel
theorem dL_law_1519 : decode code 1519 = .ok (.aload_n 0, 1) := by decide +kernel
theorem dL_law_1520 : decode code 1520 = .ok (.iload 4, 2) := by decide +kernel
theorem dL_law_1522 : decode code 1522 = .ok (.iconst 1, 1) := by decide +kernel
theorem dL_law_1523 : decode code 1523 = .ok (.iadd, 1) := by decide +kernel
theorem dL_law_1524 : decode code 1524 = .ok (.iaload, 1) := by decide +kernel
theorem dL_law_1525 : decode code 1525 = .ok (.aload_n 0, 1) := by decide +kernel
theorem dL_law_1526 : decode code 1526 = .ok (.iload 4, 2) := by decide +kernel
theorem dL_law_1528 : decode code 1528 = .ok (.iconst 2, 1) := by decide +kernel
theorem dL_law_1529 : decode code 1529 = .ok (.iadd, 1) := by decide +kernel
theorem dL_law_1530 : decode code 1530 = .ok (.iaload, 1) := by decide +kernel
theorem dL_law_1531 : decode code 1531 = .ok (.aload_n 3, 1) := by decide +kernel
theorem dL_law_1532 : decode code 1532 = .ok (.invokestatic 183, 3) := by decide +kernel
theorem dL_law_1535 : decode code 1535 = .ok (.istore 5, 2) := by decide +kernel
theorem dL_law_1537 : decode code 1537 = .ok (.aload_n 2, 1) := by decide +kernel
theorem dL_law_1538 : decode code 1538 = .ok (.aload_n 0, 1) := by decide +kernel
theorem dL_law_1539 : decode code 1539 = .ok (.iload 4, 2) := by decide +kernel
theorem dL_law_1541 : decode code 1541 = .ok (.iconst 1, 1) := by decide +kernel
theorem dL_law_1542 : decode code 1542 = .ok (.iadd, 1) := by decide +kernel
theorem dL_law_1543 : decode code 1543 = .ok (.iaload, 1) := by decide +kernel
theorem dL_law_1544 : decode code 1544 = .ok (.aload_n 0, 1) := by decide +kernel
theorem dL_law_1545 : decode code 1545 = .ok (.iload 4, 2) := by decide +kernel
theorem dL_law_1547 : decode code 1547 = .ok (.iconst 2, 1) := by decide +kernel
theorem dL_law_1548 : decode code 1548 = .ok (.iadd, 1) := by decide +kernel
theorem dL_law_1549 : decode code 1549 = .ok (.iaload, 1) := by decide +kernel
theorem dL_law_1550 : decode code 1550 = .ok (.invokevirtual 185, 3) := by decide +kernel
theorem dL_law_1553 : decode code 1553 = .ok (.istore 6, 2) := by decide +kernel
theorem dL_law_1555 : decode code 1555 = .ok (.aload_n 2, 1) := by decide +kernel
theorem dL_law_1556 : decode code 1556 = .ok (.invokevirtual 97, 3) := by decide +kernel
theorem dL_law_1559 : decode code 1559 = .ok (.iload 5, 2) := by decide +kernel
theorem dL_law_1561 : decode code 1561 = .ok (.if_icmp .eq 5, 3) := by decide +kernel
theorem dL_law_1564 : decode code 1564 = .ok (.iconst 0, 1) := by decide +kernel
theorem dL_law_1565 : decode code 1565 = .ok (.ireturn, 1) := by decide +kernel
theorem dL_law_1566 : decode code 1566 = .ok (.iload 5, 2) := by decide +kernel
theorem dL_law_1568 : decode code 1568 = .ok (.ifCond .ne 22, 3) := by decide +kernel
theorem dL_law_1571 : decode code 1571 = .ok (.aload_n 3, 1) := by decide +kernel
theorem dL_law_1572 : decode code 1572 = .ok (.iconst 0, 1) := by decide +kernel
theorem dL_law_1573 : decode code 1573 = .ok (.laload, 1) := by decide +kernel
theorem dL_law_1574 : decode code 1574 = .ok (.iload 6, 2) := by decide +kernel
theorem dL_law_1576 : decode code 1576 = .ok (.ifCond .eq 7, 3) := by decide +kernel
theorem dL_law_1579 : decode code 1579 = .ok (.lconst 1, 1) := by decide +kernel
theorem dL_law_1580 : decode code 1580 = .ok (.goto 4, 3) := by decide +kernel
theorem dL_law_1583 : decode code 1583 = .ok (.lconst 0, 1) := by decide +kernel
theorem dL_law_1584 : decode code 1584 = .ok (.lcmp, 1) := by decide +kernel
theorem dL_law_1585 : decode code 1585 = .ok (.ifCond .eq 5, 3) := by decide +kernel
theorem dL_law_1588 : decode code 1588 = .ok (.iconst 0, 1) := by decide +kernel
theorem dL_law_1589 : decode code 1589 = .ok (.ireturn, 1) := by decide +kernel
theorem dL_law_1590 : decode code 1590 = .ok (.goto 3, 3) := by decide +kernel
theorem dL_law_1593 : decode code 1593 = .ok (.iinc 4 6, 3) := by decide +kernel
theorem dL_law_1596 : decode code 1596 = .ok (.goto (-1573), 3) := by decide +kernel
theorem dL_law_1599 : decode code 1599 = .ok (.iconst 1, 1) := by decide +kernel
theorem dL_law_1600 : decode code 1600 = .ok (.ireturn, 1) := by decide +kernel
theorem scr_in {j L : Nat} (hj : 6 * j + 6 ≤ L) (hL : L ≤ 3072) (k : Nat) (hk : k < 6) : vp_in (nI (6 * j) + nI k) L := by
  rw [nI_add]; exact vp_in_nI (by omega) (by omega)
theorem lgc_eq {x y : Int64} (h : x = y) : lg_cmp x y = 0 := (lg_cmp_eq x y).mpr h
def LR : Room := room_1
theorem g_sld {p : Program} {l : Launch} {e : Env} {s : State} {m : MethodId} {args : Array Value} {below : List Frame} {meth : Method} {c : Code} {D : va_G} {Y : Nat → ClassId} {A : Nat → Prop} {Q : State → Prop} {R : Room} {cc : ByteArray} {nL : Nat} {own : String} {cells slots : Nat} {ws : va_W} {pc : Nat} {lv : List (Nat × Value)} {st : List Value} (F : Fx p s m args c D Y A cc nL own) {b L : Nat} {xs : Nat → Int32} (HX : va_X b L xs s s.heap ∧ b < s.heap.size ∧ ¬ A b) {i : Int32} (hin : vp_in i L) (hd : decode cc pc = .ok (.iaload, 1)) (k : GW p l e R s m args below meth c D A nL cells slots Q ws (pc + 1) lv (.int (xs i.toNatClampNeg) :: st)) : GW p l e R s m args below meth c D A nL cells slots Q ws pc lv (.int i :: .ref b :: st) := fun H locs ls hP hD hS hl => va_sld F.1 F.2.1 HX.1 HX.2.1 HX.2.2 hS hin hd (k H locs ls hP hD hS hl)
theorem g_slen {p : Program} {l : Launch} {e : Env} {s : State} {m : MethodId} {args : Array Value} {below : List Frame} {meth : Method} {c : Code} {D : va_G} {Y : Nat → ClassId} {A : Nat → Prop} {Q : State → Prop} {R : Room} {cc : ByteArray} {nL : Nat} {own : String} {cells slots : Nat} {ws : va_W} {pc : Nat} {lv : List (Nat × Value)} {st : List Value} (F : Fx p s m args c D Y A cc nL own) {b L : Nat} {xs : Nat → Int32} (HX : va_X b L xs s s.heap ∧ b < s.heap.size ∧ ¬ A b) (hd : decode cc pc = .ok (.arraylength, 1)) (k : GW p l e R s m args below meth c D A nL cells slots Q ws (pc + 1) lv (.int (nI L) :: st)) : GW p l e R s m args below meth c D A nL cells slots Q ws pc lv (.ref b :: st) := fun H locs ls hP hD hS hl => va_slen F.1 F.2.1 HX.1 HX.2.1 HX.2.2 hS hd (k H locs ls hP hD hS hl)
def Sx_plug (Rel : St → St → Prop) : Prop := ∀ u v, Rel u v → ∀ a1 : Int32, ∃ k r u1 b v1, pX6_plug a1 u = some (k, r, u1) ∧ (k = 0 ∨ k = 1 ∨ k = 3) ∧ pX7_plug a1 v = some (b, v1) ∧ v1.2 0 = (if k = 0 then 0 else if k = 1 then 1 else if k = 3 then 2 else 0) ∧ (k = 0 → r = b) ∧ Rel u1 v1
set_option maxHeartbeats 4000000 in
set_option maxRecDepth 20000 in
theorem L_plug {p : Program} {l : Launch} {e : Env} {s : State} {m : MethodId} {args : Array Value} {below : List Frame} {meth : Method} {c : Code} {D : va_G} {Y : Nat → ClassId} {A : Nat → Prop} {Q : State → Prop} (F : Fx p s m args c D Y A code 7 RL) {b L : Nat} {xs : Nat → Int32} (HX : va_X b L xs s s.heap ∧ b < s.heap.size ∧ ¬ A b) (hKX : KX A s) (hl9 : l.stackTraces = false) {j : Nat} (hj : 6 * j + 6 ≤ L) (hL : L ≤ 3072) {q q' : Nat → Nat} {o : Nat} {u v : St} {f : Nat → Int64} {Rel : St → St → Prop} (S : Sx_plug Rel) (hR : Rel u v) (next : ∀ u1 v1 f1, Rel u1 v1 → GW p l e room_1 s m args below meth c D A 7 (74 + j + 1) (1518 + 6 * j + 6) Q (wM Y q' v1 ++ (wC Y q u1 ++ outW Y o f1)) 1593 [(4, .int (nI (6 * j))), (3, .ref o), (2, .ref (q' 0)), (1, .ref (q 0)), (0, .ref b)] []) : GW p l e room_1 s m args below meth c D A 7 (74 + j) (1518 + 6 * j) Q (wM Y q' v ++ (wC Y q u ++ outW Y o f)) 160 [(4, .int (nI (6 * j))), (3, .ref o), (2, .ref (q' 0)), (1, .ref (q 0)), (0, .ref b)] [] := by
  obtain ⟨k, r, u1, b9, v1, eC, hk, eM, eT, eV, eR⟩ := S u v hR (xs (nI (6 * j) + nI 1).toNatClampNeg)
  refine g_aload_n F dL_law_160 3 rfl rfl ?_
  refine g_aload_n F dL_law_161 4 rfl rfl ?_
  refine g_iload F dL_law_162 0 rfl ?_
  refine g_iconst (v := nI 1) F dL_law_164 (by decide) ?_
  refine g_iadd F dL_law_165 ?_
  refine g_sld F HX (scr_in hj hL 1 (by decide)) dL_law_166 ?_
  refine g_aload_n F dL_law_167 1 rfl rfl ?_
  refine g_callW (n := 3) (ws1 := wM Y q' v ++ (wC Y q u1 ++ outW Y o (if k = 0 then vp_updL f 0 (if r = 0 then (0 : Int64) else 1) else f))) F hKX (wM Y q' v) [] (wL_plug eC hk hl9) (List.append_nil _).symm (List.append_nil _) (by unfold mOK; decide +kernel) rfl cw_yL_plug ml_L_91 st_yL_plug in_L ⟨Nat.le_of_ble_eq_true rfl, Nat.le_of_ble_eq_true rfl⟩ ⟨by show 74 + j + 1 ≤ 601024; omega, by show 1518 + 6 * j + 6 ≤ 7293034; omega⟩ rfl (Nat.le_of_ble_eq_true rfl) dL_law_168 ?_
  refine g_istore (lv' := [(5, .int ((if k = 0 then 0 else if k = 1 then 1 else if k = 3 then 2 else 0))), (4, .int (nI (6 * j))), (3, .ref o), (2, .ref (q' 0)), (1, .ref (q 0)), (0, .ref b)]) F dL_law_171 (by decide) rfl ?_
  refine g_aload_n F dL_law_173 3 rfl rfl ?_
  refine g_aload_n F dL_law_174 5 rfl rfl ?_
  refine g_iload F dL_law_175 1 rfl ?_
  refine g_iconst (v := nI 1) F dL_law_177 (by decide) ?_
  refine g_iadd F dL_law_178 ?_
  refine g_sld F HX (scr_in hj hL 1 (by decide)) dL_law_179 ?_
  refine g_callVi (n := 1) (q0 := 0) (As := [.int (xs (nI (6 * j) + nI 1).toNatClampNeg)]) (ws1 := wM Y q' v1 ++ (wC Y q u1 ++ outW Y o (if k = 0 then vp_updL f 0 (if r = 0 then (0 : Int64) else 1) else f))) F [] (wC Y q u1 ++ outW Y o (if k = 0 then vp_updL f 0 (if r = 0 then (0 : Int64) else 1) else f)) (kX7_plug eM) rfl rfl (by unfold mOK; decide +kernel) rfl rfl cd_yX7_plug ml_L_96 im_yX7_plug se_yX7_plug in_X7 rfl rfl ⟨Nat.le_of_ble_eq_true rfl, Nat.le_of_ble_eq_true rfl⟩ ⟨by show 74 + j + 1 ≤ 601024; omega, by show 1518 + 6 * j + 6 ≤ 7293034; omega⟩ rfl (Nat.le_of_ble_eq_true rfl) dL_law_180 ?_
  refine g_istore (lv' := [(6, .int (b9)), (5, .int ((if k = 0 then 0 else if k = 1 then 1 else if k = 3 then 2 else 0))), (4, .int (nI (6 * j))), (3, .ref o), (2, .ref (q' 0)), (1, .ref (q 0)), (0, .ref b)]) F dL_law_183 (by decide) rfl ?_
  refine g_aload_n F dL_law_185 4 rfl rfl ?_
  refine g_callVi (n := 0) (q0 := 0) (As := []) (ws1 := wM Y q' v1 ++ (wC Y q u1 ++ outW Y o (if k = 0 then vp_updL f 0 (if r = 0 then (0 : Int64) else 1) else f))) F [] (wC Y q u1 ++ outW Y o (if k = 0 then vp_updL f 0 (if r = 0 then (0 : Int64) else 1) else f)) (kX7_thrown (u := v1) (u1 := v1) (r := v1.2 0) rfl) rfl rfl (by unfold mOK; decide +kernel) rfl rfl cd_yX7_thrown ml_L_97 im_yX7_thrown se_yX7_thrown in_X7 rfl rfl ⟨Nat.le_of_ble_eq_true rfl, Nat.le_of_ble_eq_true rfl⟩ ⟨by show 74 + j + 1 ≤ 601024; omega, by show 1518 + 6 * j + 6 ≤ 7293034; omega⟩ rfl (Nat.le_of_ble_eq_true rfl) dL_law_186 ?_
  refine g_iload F dL_law_189 1 rfl ?_
  refine g_icmp_eq (tgt := 196) F dL_law_191 (by decide) (fun c1 => ?_) (fun c1 => absurd eT c1)
  refine g_iload F dL_law_196 1 rfl ?_
  refine g_if_ne (tgt := 220) F dL_law_198 (by decide) (fun c7 => ?_) (fun c7 => ?_)
  · refine g_goto (tgt := 1593) F dL_law_220 (by decide) ?_
    refine g_sub [2, 3, 4, 5, 6] rfl ?_
    exact next u1 v1 _ eR
  · have k0 : k = 0 := by
      rcases hk with rfl | rfl | rfl
      · rfl
      · exact absurd c7 (by decide)
      · exact absurd c7 (by decide)
    subst k0
    obtain rfl := eV rfl
    refine g_aload_n F dL_law_201 3 rfl rfl ?_
    refine g_iconst (v := 0) F dL_law_202 (by decide) ?_
    refine g_lald F 73 rfl (by unfold vp_in; decide) dL_law_203 ?_
    refine g_iload F dL_law_204 0 rfl ?_
    refine g_if_eq (tgt := 213) F dL_law_206 (by decide) (fun c6 => ?_) (fun c6 => ?_)
    · refine g_lconst (v := 0) F dL_law_213 rfl ?_
      refine g_lcmp F dL_law_214 ?_
      refine g_if_eq (tgt := 220) F dL_law_215 (by decide) (fun _ => ?_) (fun c8 => absurd (lgc_eq ?_) c8)
      · refine g_goto (tgt := 1593) F dL_law_220 (by decide) ?_
        refine g_sub [2, 3, 4, 5, 6] rfl ?_
        exact next u1 v1 _ eR
      · rw [if_pos rfl, if_pos c6]; rfl
    · refine g_lconst (v := 1) F dL_law_209 rfl ?_
      refine g_goto (tgt := 214) F dL_law_210 (by decide) ?_
      refine g_lcmp F dL_law_214 ?_
      refine g_if_eq (tgt := 220) F dL_law_215 (by decide) (fun _ => ?_) (fun c8 => absurd (lgc_eq ?_) c8)
      · refine g_goto (tgt := 1593) F dL_law_220 (by decide) ?_
        refine g_sub [2, 3, 4, 5, 6] rfl ?_
        exact next u1 v1 _ eR
      · rw [if_pos rfl, if_neg c6]; rfl
def Sx_bounds (Rel : St → St → Prop) : Prop := ∀ u v, Rel u v → ∀ a1 a2 a3 : Int32, ∃ k r u1 b v1, pX6_bounds a1 a2 a3 u = some (k, r, u1) ∧ (k = 0 ∨ k = 2) ∧ pX7_bounds a1 a2 a3 v = some (b, v1) ∧ v1.2 0 = (if k = 0 then 0 else if k = 2 then 1 else 0) ∧ Rel u1 v1
set_option maxHeartbeats 4000000 in
set_option maxRecDepth 20000 in
theorem L_bounds {p : Program} {l : Launch} {e : Env} {s : State} {m : MethodId} {args : Array Value} {below : List Frame} {meth : Method} {c : Code} {D : va_G} {Y : Nat → ClassId} {A : Nat → Prop} {Q : State → Prop} (F : Fx p s m args c D Y A code 7 RL) {b L : Nat} {xs : Nat → Int32} (HX : va_X b L xs s s.heap ∧ b < s.heap.size ∧ ¬ A b) (hKX : KX A s) (hl9 : l.stackTraces = false) {j : Nat} (hj : 6 * j + 6 ≤ L) (hL : L ≤ 3072) {q q' : Nat → Nat} {o : Nat} {u v : St} {f : Nat → Int64} {Rel : St → St → Prop} (S : Sx_bounds Rel) (hR : Rel u v) (next : ∀ u1 v1 f1, Rel u1 v1 → GW p l e room_1 s m args below meth c D A 7 (74 + j + 1) (1518 + 6 * j + 6) Q (wM Y q' v1 ++ (wC Y q u1 ++ outW Y o f1)) 1593 [(4, .int (nI (6 * j))), (3, .ref o), (2, .ref (q' 0)), (1, .ref (q 0)), (0, .ref b)] []) : GW p l e room_1 s m args below meth c D A 7 (74 + j) (1518 + 6 * j) Q (wM Y q' v ++ (wC Y q u ++ outW Y o f)) 223 [(4, .int (nI (6 * j))), (3, .ref o), (2, .ref (q' 0)), (1, .ref (q 0)), (0, .ref b)] [] := by
  obtain ⟨k, r, u1, b9, v1, eC, hk, eM, eT, eR⟩ := S u v hR (xs (nI (6 * j) + nI 1).toNatClampNeg) (xs (nI (6 * j) + nI 2).toNatClampNeg) (xs (nI (6 * j) + nI 3).toNatClampNeg)
  refine g_aload_n F dL_law_223 3 rfl rfl ?_
  refine g_aload_n F dL_law_224 4 rfl rfl ?_
  refine g_iload F dL_law_225 0 rfl ?_
  refine g_iconst (v := nI 1) F dL_law_227 (by decide) ?_
  refine g_iadd F dL_law_228 ?_
  refine g_sld F HX (scr_in hj hL 1 (by decide)) dL_law_229 ?_
  refine g_aload_n F dL_law_230 4 rfl rfl ?_
  refine g_iload F dL_law_231 0 rfl ?_
  refine g_iconst (v := nI 2) F dL_law_233 (by decide) ?_
  refine g_iadd F dL_law_234 ?_
  refine g_sld F HX (scr_in hj hL 2 (by decide)) dL_law_235 ?_
  refine g_aload_n F dL_law_236 4 rfl rfl ?_
  refine g_iload F dL_law_237 0 rfl ?_
  refine g_iconst (v := nI 3) F dL_law_239 (by decide) ?_
  refine g_iadd F dL_law_240 ?_
  refine g_sld F HX (scr_in hj hL 3 (by decide)) dL_law_241 ?_
  refine g_callW (n := 4) (ws1 := wM Y q' v ++ (wC Y q u1 ++ outW Y o f)) F hKX (wM Y q' v) (outW Y o f) (wL_bounds eC hk hl9) (List.append_assoc _ _ _).symm (List.append_assoc _ _ _) (by unfold mOK; decide +kernel) rfl cw_yL_bounds ml_L_100 st_yL_bounds in_L ⟨Nat.le_of_ble_eq_true rfl, Nat.le_of_ble_eq_true rfl⟩ ⟨by show 74 + j + 1 ≤ 601024; omega, by show 1518 + 6 * j + 6 ≤ 7293034; omega⟩ rfl (Nat.le_of_ble_eq_true rfl) dL_law_242 ?_
  refine g_istore (lv' := [(5, .int ((if k = 0 then 0 else if k = 2 then 1 else 0))), (4, .int (nI (6 * j))), (3, .ref o), (2, .ref (q' 0)), (1, .ref (q 0)), (0, .ref b)]) F dL_law_245 (by decide) rfl ?_
  refine g_aload_n F dL_law_247 3 rfl rfl ?_
  refine g_aload_n F dL_law_248 5 rfl rfl ?_
  refine g_iload F dL_law_249 1 rfl ?_
  refine g_iconst (v := nI 1) F dL_law_251 (by decide) ?_
  refine g_iadd F dL_law_252 ?_
  refine g_sld F HX (scr_in hj hL 1 (by decide)) dL_law_253 ?_
  refine g_aload_n F dL_law_254 5 rfl rfl ?_
  refine g_iload F dL_law_255 1 rfl ?_
  refine g_iconst (v := nI 2) F dL_law_257 (by decide) ?_
  refine g_iadd F dL_law_258 ?_
  refine g_sld F HX (scr_in hj hL 2 (by decide)) dL_law_259 ?_
  refine g_aload_n F dL_law_260 5 rfl rfl ?_
  refine g_iload F dL_law_261 1 rfl ?_
  refine g_iconst (v := nI 3) F dL_law_263 (by decide) ?_
  refine g_iadd F dL_law_264 ?_
  refine g_sld F HX (scr_in hj hL 3 (by decide)) dL_law_265 ?_
  refine g_callVv (n := 3) (q0 := 0) (As := [.int (xs (nI (6 * j) + nI 1).toNatClampNeg), .int (xs (nI (6 * j) + nI 2).toNatClampNeg), .int (xs (nI (6 * j) + nI 3).toNatClampNeg)]) (ws1 := wM Y q' v1 ++ (wC Y q u1 ++ outW Y o f)) F [] (wC Y q u1 ++ outW Y o f) (kX7_bounds eM) rfl rfl (by unfold mOK; decide +kernel) rfl rfl cd_yX7_bounds ml_L_103 im_yX7_bounds se_yX7_bounds in_X7 rfl rfl ⟨Nat.le_of_ble_eq_true rfl, Nat.le_of_ble_eq_true rfl⟩ ⟨by show 74 + j + 1 ≤ 601024; omega, by show 1518 + 6 * j + 6 ≤ 7293034; omega⟩ rfl (Nat.le_of_ble_eq_true rfl) dL_law_266 ?_
  refine g_aload_n F dL_law_269 3 rfl rfl ?_
  refine g_callVi (n := 0) (q0 := 0) (As := []) (ws1 := wM Y q' v1 ++ (wC Y q u1 ++ outW Y o f)) F [] (wC Y q u1 ++ outW Y o f) (kX7_thrown (u := v1) (u1 := v1) (r := v1.2 0) rfl) rfl rfl (by unfold mOK; decide +kernel) rfl rfl cd_yX7_thrown ml_L_97 im_yX7_thrown se_yX7_thrown in_X7 rfl rfl ⟨Nat.le_of_ble_eq_true rfl, Nat.le_of_ble_eq_true rfl⟩ ⟨by show 74 + j + 1 ≤ 601024; omega, by show 1518 + 6 * j + 6 ≤ 7293034; omega⟩ rfl (Nat.le_of_ble_eq_true rfl) dL_law_270 ?_
  refine g_iload F dL_law_273 0 rfl ?_
  refine g_icmp_eq (tgt := 280) F dL_law_275 (by decide) (fun c1 => ?_) (fun c1 => absurd eT c1)
  refine g_goto (tgt := 1593) F dL_law_280 (by decide) ?_
  refine g_sub [1, 2, 3, 4, 5] rfl ?_
  exact next u1 v1 _ eR
def Sx_tank (Rel : St → St → Prop) : Prop := ∀ u v, Rel u v → ∀ a1 a2 : Int32, ∃ k r u1 b v1, pX6_tank a1 a2 u = some (k, r, u1) ∧ (k = 0 ∨ k = 1 ∨ k = 2) ∧ pX7_tank a1 a2 v = some (b, v1) ∧ v1.2 0 = (if k = 0 then 0 else if k = 1 then 1 else if k = 2 then 2 else 0) ∧ (k = 0 → r = b) ∧ Rel u1 v1
set_option maxHeartbeats 4000000 in
set_option maxRecDepth 20000 in
theorem L_tank {p : Program} {l : Launch} {e : Env} {s : State} {m : MethodId} {args : Array Value} {below : List Frame} {meth : Method} {c : Code} {D : va_G} {Y : Nat → ClassId} {A : Nat → Prop} {Q : State → Prop} (F : Fx p s m args c D Y A code 7 RL) {b L : Nat} {xs : Nat → Int32} (HX : va_X b L xs s s.heap ∧ b < s.heap.size ∧ ¬ A b) (hKX : KX A s) (hl9 : l.stackTraces = false) {j : Nat} (hj : 6 * j + 6 ≤ L) (hL : L ≤ 3072) {q q' : Nat → Nat} {o : Nat} {u v : St} {f : Nat → Int64} {Rel : St → St → Prop} (S : Sx_tank Rel) (hR : Rel u v) (next : ∀ u1 v1 f1, Rel u1 v1 → GW p l e room_1 s m args below meth c D A 7 (74 + j + 1) (1518 + 6 * j + 6) Q (wM Y q' v1 ++ (wC Y q u1 ++ outW Y o f1)) 1593 [(4, .int (nI (6 * j))), (3, .ref o), (2, .ref (q' 0)), (1, .ref (q 0)), (0, .ref b)] []) : GW p l e room_1 s m args below meth c D A 7 (74 + j) (1518 + 6 * j) Q (wM Y q' v ++ (wC Y q u ++ outW Y o f)) 283 [(4, .int (nI (6 * j))), (3, .ref o), (2, .ref (q' 0)), (1, .ref (q 0)), (0, .ref b)] [] := by
  obtain ⟨k, r, u1, b9, v1, eC, hk, eM, eT, eV, eR⟩ := S u v hR (xs (nI (6 * j) + nI 1).toNatClampNeg) (xs (nI (6 * j) + nI 2).toNatClampNeg)
  refine g_aload_n F dL_law_283 3 rfl rfl ?_
  refine g_aload_n F dL_law_284 4 rfl rfl ?_
  refine g_iload F dL_law_285 0 rfl ?_
  refine g_iconst (v := nI 1) F dL_law_287 (by decide) ?_
  refine g_iadd F dL_law_288 ?_
  refine g_sld F HX (scr_in hj hL 1 (by decide)) dL_law_289 ?_
  refine g_aload_n F dL_law_290 4 rfl rfl ?_
  refine g_iload F dL_law_291 0 rfl ?_
  refine g_iconst (v := nI 2) F dL_law_293 (by decide) ?_
  refine g_iadd F dL_law_294 ?_
  refine g_sld F HX (scr_in hj hL 2 (by decide)) dL_law_295 ?_
  refine g_aload_n F dL_law_296 1 rfl rfl ?_
  refine g_callW (n := 4) (ws1 := wM Y q' v ++ (wC Y q u1 ++ outW Y o (if k = 0 then vp_updL f 0 r.toInt64 else f))) F hKX (wM Y q' v) [] (wL_tank eC hk hl9) (List.append_nil _).symm (List.append_nil _) (by unfold mOK; decide +kernel) rfl cw_yL_tank ml_L_104 st_yL_tank in_L ⟨Nat.le_of_ble_eq_true rfl, Nat.le_of_ble_eq_true rfl⟩ ⟨by show 74 + j + 1 ≤ 601024; omega, by show 1518 + 6 * j + 6 ≤ 7293034; omega⟩ rfl (Nat.le_of_ble_eq_true rfl) dL_law_297 ?_
  refine g_istore (lv' := [(5, .int ((if k = 0 then 0 else if k = 1 then 1 else if k = 2 then 2 else 0))), (4, .int (nI (6 * j))), (3, .ref o), (2, .ref (q' 0)), (1, .ref (q 0)), (0, .ref b)]) F dL_law_300 (by decide) rfl ?_
  refine g_aload_n F dL_law_302 3 rfl rfl ?_
  refine g_aload_n F dL_law_303 5 rfl rfl ?_
  refine g_iload F dL_law_304 1 rfl ?_
  refine g_iconst (v := nI 1) F dL_law_306 (by decide) ?_
  refine g_iadd F dL_law_307 ?_
  refine g_sld F HX (scr_in hj hL 1 (by decide)) dL_law_308 ?_
  refine g_aload_n F dL_law_309 5 rfl rfl ?_
  refine g_iload F dL_law_310 1 rfl ?_
  refine g_iconst (v := nI 2) F dL_law_312 (by decide) ?_
  refine g_iadd F dL_law_313 ?_
  refine g_sld F HX (scr_in hj hL 2 (by decide)) dL_law_314 ?_
  refine g_callVi (n := 2) (q0 := 0) (As := [.int (xs (nI (6 * j) + nI 1).toNatClampNeg), .int (xs (nI (6 * j) + nI 2).toNatClampNeg)]) (ws1 := wM Y q' v1 ++ (wC Y q u1 ++ outW Y o (if k = 0 then vp_updL f 0 r.toInt64 else f))) F [] (wC Y q u1 ++ outW Y o (if k = 0 then vp_updL f 0 r.toInt64 else f)) (kX7_tank eM) rfl rfl (by unfold mOK; decide +kernel) rfl rfl cd_yX7_tank ml_L_107 im_yX7_tank se_yX7_tank in_X7 rfl rfl ⟨Nat.le_of_ble_eq_true rfl, Nat.le_of_ble_eq_true rfl⟩ ⟨by show 74 + j + 1 ≤ 601024; omega, by show 1518 + 6 * j + 6 ≤ 7293034; omega⟩ rfl (Nat.le_of_ble_eq_true rfl) dL_law_315 ?_
  refine g_istore (lv' := [(6, .int (b9)), (5, .int ((if k = 0 then 0 else if k = 1 then 1 else if k = 2 then 2 else 0))), (4, .int (nI (6 * j))), (3, .ref o), (2, .ref (q' 0)), (1, .ref (q 0)), (0, .ref b)]) F dL_law_318 (by decide) rfl ?_
  refine g_aload_n F dL_law_320 4 rfl rfl ?_
  refine g_callVi (n := 0) (q0 := 0) (As := []) (ws1 := wM Y q' v1 ++ (wC Y q u1 ++ outW Y o (if k = 0 then vp_updL f 0 r.toInt64 else f))) F [] (wC Y q u1 ++ outW Y o (if k = 0 then vp_updL f 0 r.toInt64 else f)) (kX7_thrown (u := v1) (u1 := v1) (r := v1.2 0) rfl) rfl rfl (by unfold mOK; decide +kernel) rfl rfl cd_yX7_thrown ml_L_97 im_yX7_thrown se_yX7_thrown in_X7 rfl rfl ⟨Nat.le_of_ble_eq_true rfl, Nat.le_of_ble_eq_true rfl⟩ ⟨by show 74 + j + 1 ≤ 601024; omega, by show 1518 + 6 * j + 6 ≤ 7293034; omega⟩ rfl (Nat.le_of_ble_eq_true rfl) dL_law_321 ?_
  refine g_iload F dL_law_324 1 rfl ?_
  refine g_icmp_eq (tgt := 331) F dL_law_326 (by decide) (fun c1 => ?_) (fun c1 => absurd eT c1)
  refine g_iload F dL_law_331 1 rfl ?_
  refine g_if_ne (tgt := 348) F dL_law_333 (by decide) (fun c7 => ?_) (fun c7 => ?_)
  · refine g_goto (tgt := 1593) F dL_law_348 (by decide) ?_
    refine g_sub [2, 3, 4, 5, 6] rfl ?_
    exact next u1 v1 _ eR
  · have k0 : k = 0 := by
      rcases hk with rfl | rfl | rfl
      · rfl
      · exact absurd c7 (by decide)
      · exact absurd c7 (by decide)
    subst k0
    obtain rfl := eV rfl
    refine g_aload_n F dL_law_336 3 rfl rfl ?_
    refine g_iconst (v := 0) F dL_law_337 (by decide) ?_
    refine g_lald F 73 rfl (by unfold vp_in; decide) dL_law_338 ?_
    refine g_iload F dL_law_339 0 rfl ?_
    refine g_i2l F dL_law_341 rfl ?_
    refine g_lcmp F dL_law_342 ?_
    refine g_if_eq (tgt := 348) F dL_law_343 (by decide) (fun _ => ?_) (fun c8 => absurd (lgc_eq ?_) c8)
    · refine g_goto (tgt := 1593) F dL_law_348 (by decide) ?_
      refine g_sub [2, 3, 4, 5, 6] rfl ?_
      exact next u1 v1 _ eR
    · rw [if_pos rfl]; rfl
def Sx_jam (Rel : St → St → Prop) : Prop := ∀ u v, Rel u v → ∀ a1 a2 : Int32, ∃ k r u1 b v1, pX6_jam a1 a2 u = some (k, r, u1) ∧ (k = 0 ∨ k = 1 ∨ k = 2) ∧ pX7_jam a1 a2 v = some (b, v1) ∧ v1.2 0 = (if k = 0 then 0 else if k = 1 then 1 else if k = 2 then 2 else 0) ∧ (k = 0 → r = b) ∧ Rel u1 v1
set_option maxHeartbeats 4000000 in
set_option maxRecDepth 20000 in
theorem L_jam {p : Program} {l : Launch} {e : Env} {s : State} {m : MethodId} {args : Array Value} {below : List Frame} {meth : Method} {c : Code} {D : va_G} {Y : Nat → ClassId} {A : Nat → Prop} {Q : State → Prop} (F : Fx p s m args c D Y A code 7 RL) {b L : Nat} {xs : Nat → Int32} (HX : va_X b L xs s s.heap ∧ b < s.heap.size ∧ ¬ A b) (hKX : KX A s) (hl9 : l.stackTraces = false) {j : Nat} (hj : 6 * j + 6 ≤ L) (hL : L ≤ 3072) {q q' : Nat → Nat} {o : Nat} {u v : St} {f : Nat → Int64} {Rel : St → St → Prop} (S : Sx_jam Rel) (hR : Rel u v) (next : ∀ u1 v1 f1, Rel u1 v1 → GW p l e room_1 s m args below meth c D A 7 (74 + j + 1) (1518 + 6 * j + 6) Q (wM Y q' v1 ++ (wC Y q u1 ++ outW Y o f1)) 1593 [(4, .int (nI (6 * j))), (3, .ref o), (2, .ref (q' 0)), (1, .ref (q 0)), (0, .ref b)] []) : GW p l e room_1 s m args below meth c D A 7 (74 + j) (1518 + 6 * j) Q (wM Y q' v ++ (wC Y q u ++ outW Y o f)) 351 [(4, .int (nI (6 * j))), (3, .ref o), (2, .ref (q' 0)), (1, .ref (q 0)), (0, .ref b)] [] := by
  obtain ⟨k, r, u1, b9, v1, eC, hk, eM, eT, eV, eR⟩ := S u v hR (xs (nI (6 * j) + nI 1).toNatClampNeg) (xs (nI (6 * j) + nI 2).toNatClampNeg)
  refine g_aload_n F dL_law_351 3 rfl rfl ?_
  refine g_aload_n F dL_law_352 4 rfl rfl ?_
  refine g_iload F dL_law_353 0 rfl ?_
  refine g_iconst (v := nI 1) F dL_law_355 (by decide) ?_
  refine g_iadd F dL_law_356 ?_
  refine g_sld F HX (scr_in hj hL 1 (by decide)) dL_law_357 ?_
  refine g_aload_n F dL_law_358 4 rfl rfl ?_
  refine g_iload F dL_law_359 0 rfl ?_
  refine g_iconst (v := nI 2) F dL_law_361 (by decide) ?_
  refine g_iadd F dL_law_362 ?_
  refine g_sld F HX (scr_in hj hL 2 (by decide)) dL_law_363 ?_
  refine g_aload_n F dL_law_364 1 rfl rfl ?_
  refine g_callW (n := 4) (ws1 := wM Y q' v ++ (wC Y q u1 ++ outW Y o (if k = 0 then vp_updL f 0 r.toInt64 else f))) F hKX (wM Y q' v) [] (wL_jam eC hk hl9) (List.append_nil _).symm (List.append_nil _) (by unfold mOK; decide +kernel) rfl cw_yL_jam ml_L_108 st_yL_jam in_L ⟨Nat.le_of_ble_eq_true rfl, Nat.le_of_ble_eq_true rfl⟩ ⟨by show 74 + j + 1 ≤ 601024; omega, by show 1518 + 6 * j + 6 ≤ 7293034; omega⟩ rfl (Nat.le_of_ble_eq_true rfl) dL_law_365 ?_
  refine g_istore (lv' := [(5, .int ((if k = 0 then 0 else if k = 1 then 1 else if k = 2 then 2 else 0))), (4, .int (nI (6 * j))), (3, .ref o), (2, .ref (q' 0)), (1, .ref (q 0)), (0, .ref b)]) F dL_law_368 (by decide) rfl ?_
  refine g_aload_n F dL_law_370 3 rfl rfl ?_
  refine g_aload_n F dL_law_371 5 rfl rfl ?_
  refine g_iload F dL_law_372 1 rfl ?_
  refine g_iconst (v := nI 1) F dL_law_374 (by decide) ?_
  refine g_iadd F dL_law_375 ?_
  refine g_sld F HX (scr_in hj hL 1 (by decide)) dL_law_376 ?_
  refine g_aload_n F dL_law_377 5 rfl rfl ?_
  refine g_iload F dL_law_378 1 rfl ?_
  refine g_iconst (v := nI 2) F dL_law_380 (by decide) ?_
  refine g_iadd F dL_law_381 ?_
  refine g_sld F HX (scr_in hj hL 2 (by decide)) dL_law_382 ?_
  refine g_callVi (n := 2) (q0 := 0) (As := [.int (xs (nI (6 * j) + nI 1).toNatClampNeg), .int (xs (nI (6 * j) + nI 2).toNatClampNeg)]) (ws1 := wM Y q' v1 ++ (wC Y q u1 ++ outW Y o (if k = 0 then vp_updL f 0 r.toInt64 else f))) F [] (wC Y q u1 ++ outW Y o (if k = 0 then vp_updL f 0 r.toInt64 else f)) (kX7_jam eM) rfl rfl (by unfold mOK; decide +kernel) rfl rfl cd_yX7_jam ml_L_110 im_yX7_jam se_yX7_jam in_X7 rfl rfl ⟨Nat.le_of_ble_eq_true rfl, Nat.le_of_ble_eq_true rfl⟩ ⟨by show 74 + j + 1 ≤ 601024; omega, by show 1518 + 6 * j + 6 ≤ 7293034; omega⟩ rfl (Nat.le_of_ble_eq_true rfl) dL_law_383 ?_
  refine g_istore (lv' := [(6, .int (b9)), (5, .int ((if k = 0 then 0 else if k = 1 then 1 else if k = 2 then 2 else 0))), (4, .int (nI (6 * j))), (3, .ref o), (2, .ref (q' 0)), (1, .ref (q 0)), (0, .ref b)]) F dL_law_386 (by decide) rfl ?_
  refine g_aload_n F dL_law_388 4 rfl rfl ?_
  refine g_callVi (n := 0) (q0 := 0) (As := []) (ws1 := wM Y q' v1 ++ (wC Y q u1 ++ outW Y o (if k = 0 then vp_updL f 0 r.toInt64 else f))) F [] (wC Y q u1 ++ outW Y o (if k = 0 then vp_updL f 0 r.toInt64 else f)) (kX7_thrown (u := v1) (u1 := v1) (r := v1.2 0) rfl) rfl rfl (by unfold mOK; decide +kernel) rfl rfl cd_yX7_thrown ml_L_97 im_yX7_thrown se_yX7_thrown in_X7 rfl rfl ⟨Nat.le_of_ble_eq_true rfl, Nat.le_of_ble_eq_true rfl⟩ ⟨by show 74 + j + 1 ≤ 601024; omega, by show 1518 + 6 * j + 6 ≤ 7293034; omega⟩ rfl (Nat.le_of_ble_eq_true rfl) dL_law_389 ?_
  refine g_iload F dL_law_392 1 rfl ?_
  refine g_icmp_eq (tgt := 399) F dL_law_394 (by decide) (fun c1 => ?_) (fun c1 => absurd eT c1)
  refine g_iload F dL_law_399 1 rfl ?_
  refine g_if_ne (tgt := 416) F dL_law_401 (by decide) (fun c7 => ?_) (fun c7 => ?_)
  · refine g_goto (tgt := 1593) F dL_law_416 (by decide) ?_
    refine g_sub [2, 3, 4, 5, 6] rfl ?_
    exact next u1 v1 _ eR
  · have k0 : k = 0 := by
      rcases hk with rfl | rfl | rfl
      · rfl
      · exact absurd c7 (by decide)
      · exact absurd c7 (by decide)
    subst k0
    obtain rfl := eV rfl
    refine g_aload_n F dL_law_404 3 rfl rfl ?_
    refine g_iconst (v := 0) F dL_law_405 (by decide) ?_
    refine g_lald F 73 rfl (by unfold vp_in; decide) dL_law_406 ?_
    refine g_iload F dL_law_407 0 rfl ?_
    refine g_i2l F dL_law_409 rfl ?_
    refine g_lcmp F dL_law_410 ?_
    refine g_if_eq (tgt := 416) F dL_law_411 (by decide) (fun _ => ?_) (fun c8 => absurd (lgc_eq ?_) c8)
    · refine g_goto (tgt := 1593) F dL_law_416 (by decide) ?_
      refine g_sub [2, 3, 4, 5, 6] rfl ?_
      exact next u1 v1 _ eR
    · rw [if_pos rfl]; rfl
def Sx_crane (Rel : St → St → Prop) : Prop := ∀ u v, Rel u v → ∀ a1 a2 a3 a4 : Int32, ∃ k r u1 b v1, pX6_crane a1 a2 a3 a4 u = some (k, r, u1) ∧ (k = 0 ∨ k = 1 ∨ k = 2) ∧ pX7_crane a1 a2 a3 a4 v = some (b, v1) ∧ v1.2 0 = (if k = 0 then 0 else if k = 1 then 1 else if k = 2 then 2 else 0) ∧ Rel u1 v1
set_option maxHeartbeats 4000000 in
set_option maxRecDepth 20000 in
theorem L_crane {p : Program} {l : Launch} {e : Env} {s : State} {m : MethodId} {args : Array Value} {below : List Frame} {meth : Method} {c : Code} {D : va_G} {Y : Nat → ClassId} {A : Nat → Prop} {Q : State → Prop} (F : Fx p s m args c D Y A code 7 RL) {b L : Nat} {xs : Nat → Int32} (HX : va_X b L xs s s.heap ∧ b < s.heap.size ∧ ¬ A b) (hKX : KX A s) (hl9 : l.stackTraces = false) {j : Nat} (hj : 6 * j + 6 ≤ L) (hL : L ≤ 3072) {q q' : Nat → Nat} {o : Nat} {u v : St} {f : Nat → Int64} {Rel : St → St → Prop} (S : Sx_crane Rel) (hR : Rel u v) (next : ∀ u1 v1 f1, Rel u1 v1 → GW p l e room_1 s m args below meth c D A 7 (74 + j + 1) (1518 + 6 * j + 6) Q (wM Y q' v1 ++ (wC Y q u1 ++ outW Y o f1)) 1593 [(4, .int (nI (6 * j))), (3, .ref o), (2, .ref (q' 0)), (1, .ref (q 0)), (0, .ref b)] []) : GW p l e room_1 s m args below meth c D A 7 (74 + j) (1518 + 6 * j) Q (wM Y q' v ++ (wC Y q u ++ outW Y o f)) 419 [(4, .int (nI (6 * j))), (3, .ref o), (2, .ref (q' 0)), (1, .ref (q 0)), (0, .ref b)] [] := by
  obtain ⟨k, r, u1, b9, v1, eC, hk, eM, eT, eR⟩ := S u v hR (xs (nI (6 * j) + nI 1).toNatClampNeg) (xs (nI (6 * j) + nI 2).toNatClampNeg) (xs (nI (6 * j) + nI 3).toNatClampNeg) (xs (nI (6 * j) + nI 4).toNatClampNeg)
  refine g_aload_n F dL_law_419 3 rfl rfl ?_
  refine g_aload_n F dL_law_420 4 rfl rfl ?_
  refine g_iload F dL_law_421 0 rfl ?_
  refine g_iconst (v := nI 1) F dL_law_423 (by decide) ?_
  refine g_iadd F dL_law_424 ?_
  refine g_sld F HX (scr_in hj hL 1 (by decide)) dL_law_425 ?_
  refine g_aload_n F dL_law_426 4 rfl rfl ?_
  refine g_iload F dL_law_427 0 rfl ?_
  refine g_iconst (v := nI 2) F dL_law_429 (by decide) ?_
  refine g_iadd F dL_law_430 ?_
  refine g_sld F HX (scr_in hj hL 2 (by decide)) dL_law_431 ?_
  refine g_aload_n F dL_law_432 4 rfl rfl ?_
  refine g_iload F dL_law_433 0 rfl ?_
  refine g_iconst (v := nI 3) F dL_law_435 (by decide) ?_
  refine g_iadd F dL_law_436 ?_
  refine g_sld F HX (scr_in hj hL 3 (by decide)) dL_law_437 ?_
  refine g_aload_n F dL_law_438 4 rfl rfl ?_
  refine g_iload F dL_law_439 0 rfl ?_
  refine g_iconst (v := nI 4) F dL_law_441 (by decide) ?_
  refine g_iadd F dL_law_442 ?_
  refine g_sld F HX (scr_in hj hL 4 (by decide)) dL_law_443 ?_
  refine g_callW (n := 5) (ws1 := wM Y q' v ++ (wC Y q u1 ++ outW Y o f)) F hKX (wM Y q' v) (outW Y o f) (wL_crane eC hk hl9) (List.append_assoc _ _ _).symm (List.append_assoc _ _ _) (by unfold mOK; decide +kernel) rfl cw_yL_crane ml_L_111 st_yL_crane in_L ⟨Nat.le_of_ble_eq_true rfl, Nat.le_of_ble_eq_true rfl⟩ ⟨by show 74 + j + 1 ≤ 601024; omega, by show 1518 + 6 * j + 6 ≤ 7293034; omega⟩ rfl (Nat.le_of_ble_eq_true rfl) dL_law_444 ?_
  refine g_istore (lv' := [(5, .int ((if k = 0 then 0 else if k = 1 then 1 else if k = 2 then 2 else 0))), (4, .int (nI (6 * j))), (3, .ref o), (2, .ref (q' 0)), (1, .ref (q 0)), (0, .ref b)]) F dL_law_447 (by decide) rfl ?_
  refine g_aload_n F dL_law_449 3 rfl rfl ?_
  refine g_aload_n F dL_law_450 5 rfl rfl ?_
  refine g_iload F dL_law_451 1 rfl ?_
  refine g_iconst (v := nI 1) F dL_law_453 (by decide) ?_
  refine g_iadd F dL_law_454 ?_
  refine g_sld F HX (scr_in hj hL 1 (by decide)) dL_law_455 ?_
  refine g_aload_n F dL_law_456 5 rfl rfl ?_
  refine g_iload F dL_law_457 1 rfl ?_
  refine g_iconst (v := nI 2) F dL_law_459 (by decide) ?_
  refine g_iadd F dL_law_460 ?_
  refine g_sld F HX (scr_in hj hL 2 (by decide)) dL_law_461 ?_
  refine g_aload_n F dL_law_462 5 rfl rfl ?_
  refine g_iload F dL_law_463 1 rfl ?_
  refine g_iconst (v := nI 3) F dL_law_465 (by decide) ?_
  refine g_iadd F dL_law_466 ?_
  refine g_sld F HX (scr_in hj hL 3 (by decide)) dL_law_467 ?_
  refine g_aload_n F dL_law_468 5 rfl rfl ?_
  refine g_iload F dL_law_469 1 rfl ?_
  refine g_iconst (v := nI 4) F dL_law_471 (by decide) ?_
  refine g_iadd F dL_law_472 ?_
  refine g_sld F HX (scr_in hj hL 4 (by decide)) dL_law_473 ?_
  refine g_callVv (n := 4) (q0 := 0) (As := [.int (xs (nI (6 * j) + nI 1).toNatClampNeg), .int (xs (nI (6 * j) + nI 2).toNatClampNeg), .int (xs (nI (6 * j) + nI 3).toNatClampNeg), .int (xs (nI (6 * j) + nI 4).toNatClampNeg)]) (ws1 := wM Y q' v1 ++ (wC Y q u1 ++ outW Y o f)) F [] (wC Y q u1 ++ outW Y o f) (kX7_crane eM) rfl rfl (by unfold mOK; decide +kernel) rfl rfl cd_yX7_crane ml_L_114 im_yX7_crane se_yX7_crane in_X7 rfl rfl ⟨Nat.le_of_ble_eq_true rfl, Nat.le_of_ble_eq_true rfl⟩ ⟨by show 74 + j + 1 ≤ 601024; omega, by show 1518 + 6 * j + 6 ≤ 7293034; omega⟩ rfl (Nat.le_of_ble_eq_true rfl) dL_law_474 ?_
  refine g_aload_n F dL_law_477 3 rfl rfl ?_
  refine g_callVi (n := 0) (q0 := 0) (As := []) (ws1 := wM Y q' v1 ++ (wC Y q u1 ++ outW Y o f)) F [] (wC Y q u1 ++ outW Y o f) (kX7_thrown (u := v1) (u1 := v1) (r := v1.2 0) rfl) rfl rfl (by unfold mOK; decide +kernel) rfl rfl cd_yX7_thrown ml_L_97 im_yX7_thrown se_yX7_thrown in_X7 rfl rfl ⟨Nat.le_of_ble_eq_true rfl, Nat.le_of_ble_eq_true rfl⟩ ⟨by show 74 + j + 1 ≤ 601024; omega, by show 1518 + 6 * j + 6 ≤ 7293034; omega⟩ rfl (Nat.le_of_ble_eq_true rfl) dL_law_478 ?_
  refine g_iload F dL_law_481 0 rfl ?_
  refine g_icmp_eq (tgt := 488) F dL_law_483 (by decide) (fun c1 => ?_) (fun c1 => absurd eT c1)
  refine g_goto (tgt := 1593) F dL_law_488 (by decide) ?_
  refine g_sub [1, 2, 3, 4, 5] rfl ?_
  exact next u1 v1 _ eR
def Sx_box (Rel : St → St → Prop) : Prop := ∀ u v, Rel u v → ∀ a1 a2 a3 a4 a5 : Int32, ∃ k r u1 b v1, pX6_box a1 a2 a3 a4 a5 u = some (k, r, u1) ∧ (k = 0 ∨ k = 1 ∨ k = 2 ∨ k = 3) ∧ pX7_box a1 a2 a3 a4 a5 v = some (b, v1) ∧ v1.2 0 = (if k = 0 then 0 else if k = 1 then 1 else if k = 2 then 2 else if k = 3 then 3 else 0) ∧ (k = 0 → r = b) ∧ Rel u1 v1
set_option maxHeartbeats 4000000 in
set_option maxRecDepth 20000 in
theorem L_box {p : Program} {l : Launch} {e : Env} {s : State} {m : MethodId} {args : Array Value} {below : List Frame} {meth : Method} {c : Code} {D : va_G} {Y : Nat → ClassId} {A : Nat → Prop} {Q : State → Prop} (F : Fx p s m args c D Y A code 7 RL) {b L : Nat} {xs : Nat → Int32} (HX : va_X b L xs s s.heap ∧ b < s.heap.size ∧ ¬ A b) (hKX : KX A s) (hl9 : l.stackTraces = false) {j : Nat} (hj : 6 * j + 6 ≤ L) (hL : L ≤ 3072) {q q' : Nat → Nat} {o : Nat} {u v : St} {f : Nat → Int64} {Rel : St → St → Prop} (S : Sx_box Rel) (hR : Rel u v) (next : ∀ u1 v1 f1, Rel u1 v1 → GW p l e room_1 s m args below meth c D A 7 (74 + j + 1) (1518 + 6 * j + 6) Q (wM Y q' v1 ++ (wC Y q u1 ++ outW Y o f1)) 1593 [(4, .int (nI (6 * j))), (3, .ref o), (2, .ref (q' 0)), (1, .ref (q 0)), (0, .ref b)] []) : GW p l e room_1 s m args below meth c D A 7 (74 + j) (1518 + 6 * j) Q (wM Y q' v ++ (wC Y q u ++ outW Y o f)) 491 [(4, .int (nI (6 * j))), (3, .ref o), (2, .ref (q' 0)), (1, .ref (q 0)), (0, .ref b)] [] := by
  obtain ⟨k, r, u1, b9, v1, eC, hk, eM, eT, eV, eR⟩ := S u v hR (xs (nI (6 * j) + nI 1).toNatClampNeg) (xs (nI (6 * j) + nI 2).toNatClampNeg) (xs (nI (6 * j) + nI 3).toNatClampNeg) (xs (nI (6 * j) + nI 4).toNatClampNeg) (xs (nI (6 * j) + nI 5).toNatClampNeg)
  refine g_aload_n F dL_law_491 3 rfl rfl ?_
  refine g_aload_n F dL_law_492 4 rfl rfl ?_
  refine g_iload F dL_law_493 0 rfl ?_
  refine g_iconst (v := nI 1) F dL_law_495 (by decide) ?_
  refine g_iadd F dL_law_496 ?_
  refine g_sld F HX (scr_in hj hL 1 (by decide)) dL_law_497 ?_
  refine g_aload_n F dL_law_498 4 rfl rfl ?_
  refine g_iload F dL_law_499 0 rfl ?_
  refine g_iconst (v := nI 2) F dL_law_501 (by decide) ?_
  refine g_iadd F dL_law_502 ?_
  refine g_sld F HX (scr_in hj hL 2 (by decide)) dL_law_503 ?_
  refine g_aload_n F dL_law_504 4 rfl rfl ?_
  refine g_iload F dL_law_505 0 rfl ?_
  refine g_iconst (v := nI 3) F dL_law_507 (by decide) ?_
  refine g_iadd F dL_law_508 ?_
  refine g_sld F HX (scr_in hj hL 3 (by decide)) dL_law_509 ?_
  refine g_aload_n F dL_law_510 4 rfl rfl ?_
  refine g_iload F dL_law_511 0 rfl ?_
  refine g_iconst (v := nI 4) F dL_law_513 (by decide) ?_
  refine g_iadd F dL_law_514 ?_
  refine g_sld F HX (scr_in hj hL 4 (by decide)) dL_law_515 ?_
  refine g_aload_n F dL_law_516 4 rfl rfl ?_
  refine g_iload F dL_law_517 0 rfl ?_
  refine g_iconst (v := nI 5) F dL_law_519 (by decide) ?_
  refine g_iadd F dL_law_520 ?_
  refine g_sld F HX (scr_in hj hL 5 (by decide)) dL_law_521 ?_
  refine g_aload_n F dL_law_522 1 rfl rfl ?_
  refine g_callW (n := 7) (ws1 := wM Y q' v ++ (wC Y q u1 ++ outW Y o (if k = 0 then vp_updL f 0 r.toInt64 else f))) F hKX (wM Y q' v) [] (wL_box eC hk hl9) (List.append_nil _).symm (List.append_nil _) (by unfold mOK; decide +kernel) rfl cw_yL_box ml_L_115 st_yL_box in_L ⟨Nat.le_of_ble_eq_true rfl, Nat.le_of_ble_eq_true rfl⟩ ⟨by show 74 + j + 1 ≤ 601024; omega, by show 1518 + 6 * j + 6 ≤ 7293034; omega⟩ rfl (Nat.le_of_ble_eq_true rfl) dL_law_523 ?_
  refine g_istore (lv' := [(5, .int ((if k = 0 then 0 else if k = 1 then 1 else if k = 2 then 2 else if k = 3 then 3 else 0))), (4, .int (nI (6 * j))), (3, .ref o), (2, .ref (q' 0)), (1, .ref (q 0)), (0, .ref b)]) F dL_law_526 (by decide) rfl ?_
  refine g_aload_n F dL_law_528 3 rfl rfl ?_
  refine g_aload_n F dL_law_529 5 rfl rfl ?_
  refine g_iload F dL_law_530 1 rfl ?_
  refine g_iconst (v := nI 1) F dL_law_532 (by decide) ?_
  refine g_iadd F dL_law_533 ?_
  refine g_sld F HX (scr_in hj hL 1 (by decide)) dL_law_534 ?_
  refine g_aload_n F dL_law_535 5 rfl rfl ?_
  refine g_iload F dL_law_536 1 rfl ?_
  refine g_iconst (v := nI 2) F dL_law_538 (by decide) ?_
  refine g_iadd F dL_law_539 ?_
  refine g_sld F HX (scr_in hj hL 2 (by decide)) dL_law_540 ?_
  refine g_aload_n F dL_law_541 5 rfl rfl ?_
  refine g_iload F dL_law_542 1 rfl ?_
  refine g_iconst (v := nI 3) F dL_law_544 (by decide) ?_
  refine g_iadd F dL_law_545 ?_
  refine g_sld F HX (scr_in hj hL 3 (by decide)) dL_law_546 ?_
  refine g_aload_n F dL_law_547 5 rfl rfl ?_
  refine g_iload F dL_law_548 1 rfl ?_
  refine g_iconst (v := nI 4) F dL_law_550 (by decide) ?_
  refine g_iadd F dL_law_551 ?_
  refine g_sld F HX (scr_in hj hL 4 (by decide)) dL_law_552 ?_
  refine g_aload_n F dL_law_553 5 rfl rfl ?_
  refine g_iload F dL_law_554 1 rfl ?_
  refine g_iconst (v := nI 5) F dL_law_556 (by decide) ?_
  refine g_iadd F dL_law_557 ?_
  refine g_sld F HX (scr_in hj hL 5 (by decide)) dL_law_558 ?_
  refine g_callVi (n := 5) (q0 := 0) (As := [.int (xs (nI (6 * j) + nI 1).toNatClampNeg), .int (xs (nI (6 * j) + nI 2).toNatClampNeg), .int (xs (nI (6 * j) + nI 3).toNatClampNeg), .int (xs (nI (6 * j) + nI 4).toNatClampNeg), .int (xs (nI (6 * j) + nI 5).toNatClampNeg)]) (ws1 := wM Y q' v1 ++ (wC Y q u1 ++ outW Y o (if k = 0 then vp_updL f 0 r.toInt64 else f))) F [] (wC Y q u1 ++ outW Y o (if k = 0 then vp_updL f 0 r.toInt64 else f)) (kX7_box eM) rfl rfl (by unfold mOK; decide +kernel) rfl rfl cd_yX7_box ml_L_118 im_yX7_box se_yX7_box in_X7 rfl rfl ⟨Nat.le_of_ble_eq_true rfl, Nat.le_of_ble_eq_true rfl⟩ ⟨by show 74 + j + 1 ≤ 601024; omega, by show 1518 + 6 * j + 6 ≤ 7293034; omega⟩ rfl (Nat.le_of_ble_eq_true rfl) dL_law_559 ?_
  refine g_istore (lv' := [(6, .int (b9)), (5, .int ((if k = 0 then 0 else if k = 1 then 1 else if k = 2 then 2 else if k = 3 then 3 else 0))), (4, .int (nI (6 * j))), (3, .ref o), (2, .ref (q' 0)), (1, .ref (q 0)), (0, .ref b)]) F dL_law_562 (by decide) rfl ?_
  refine g_aload_n F dL_law_564 4 rfl rfl ?_
  refine g_callVi (n := 0) (q0 := 0) (As := []) (ws1 := wM Y q' v1 ++ (wC Y q u1 ++ outW Y o (if k = 0 then vp_updL f 0 r.toInt64 else f))) F [] (wC Y q u1 ++ outW Y o (if k = 0 then vp_updL f 0 r.toInt64 else f)) (kX7_thrown (u := v1) (u1 := v1) (r := v1.2 0) rfl) rfl rfl (by unfold mOK; decide +kernel) rfl rfl cd_yX7_thrown ml_L_97 im_yX7_thrown se_yX7_thrown in_X7 rfl rfl ⟨Nat.le_of_ble_eq_true rfl, Nat.le_of_ble_eq_true rfl⟩ ⟨by show 74 + j + 1 ≤ 601024; omega, by show 1518 + 6 * j + 6 ≤ 7293034; omega⟩ rfl (Nat.le_of_ble_eq_true rfl) dL_law_565 ?_
  refine g_iload F dL_law_568 1 rfl ?_
  refine g_icmp_eq (tgt := 575) F dL_law_570 (by decide) (fun c1 => ?_) (fun c1 => absurd eT c1)
  refine g_iload F dL_law_575 1 rfl ?_
  refine g_if_ne (tgt := 592) F dL_law_577 (by decide) (fun c7 => ?_) (fun c7 => ?_)
  · refine g_goto (tgt := 1593) F dL_law_592 (by decide) ?_
    refine g_sub [2, 3, 4, 5, 6] rfl ?_
    exact next u1 v1 _ eR
  · have k0 : k = 0 := by
      rcases hk with rfl | rfl | rfl | rfl
      · rfl
      · exact absurd c7 (by decide)
      · exact absurd c7 (by decide)
      · exact absurd c7 (by decide)
    subst k0
    obtain rfl := eV rfl
    refine g_aload_n F dL_law_580 3 rfl rfl ?_
    refine g_iconst (v := 0) F dL_law_581 (by decide) ?_
    refine g_lald F 73 rfl (by unfold vp_in; decide) dL_law_582 ?_
    refine g_iload F dL_law_583 0 rfl ?_
    refine g_i2l F dL_law_585 rfl ?_
    refine g_lcmp F dL_law_586 ?_
    refine g_if_eq (tgt := 592) F dL_law_587 (by decide) (fun _ => ?_) (fun c8 => absurd (lgc_eq ?_) c8)
    · refine g_goto (tgt := 1593) F dL_law_592 (by decide) ?_
      refine g_sub [2, 3, 4, 5, 6] rfl ?_
      exact next u1 v1 _ eR
    · rw [if_pos rfl]; rfl
def Sx_paper (Rel : St → St → Prop) : Prop := ∀ u v, Rel u v → ∀ a1 a2 : Int32, ∃ k r u1 b v1, pX6_paper a1 a2 u = some (k, r, u1) ∧ (k = 0 ∨ k = 1) ∧ pX7_paper a1 a2 v = some (b, v1) ∧ v1.2 0 = (if k = 0 then 0 else if k = 1 then 1 else 0) ∧ (k = 0 → r = b) ∧ Rel u1 v1
set_option maxHeartbeats 4000000 in
set_option maxRecDepth 20000 in
theorem L_paper {p : Program} {l : Launch} {e : Env} {s : State} {m : MethodId} {args : Array Value} {below : List Frame} {meth : Method} {c : Code} {D : va_G} {Y : Nat → ClassId} {A : Nat → Prop} {Q : State → Prop} (F : Fx p s m args c D Y A code 7 RL) {b L : Nat} {xs : Nat → Int32} (HX : va_X b L xs s s.heap ∧ b < s.heap.size ∧ ¬ A b) (hKX : KX A s) (hl9 : l.stackTraces = false) {j : Nat} (hj : 6 * j + 6 ≤ L) (hL : L ≤ 3072) {q q' : Nat → Nat} {o : Nat} {u v : St} {f : Nat → Int64} {Rel : St → St → Prop} (S : Sx_paper Rel) (hR : Rel u v) (next : ∀ u1 v1 f1, Rel u1 v1 → GW p l e room_1 s m args below meth c D A 7 (74 + j + 1) (1518 + 6 * j + 6) Q (wM Y q' v1 ++ (wC Y q u1 ++ outW Y o f1)) 1593 [(4, .int (nI (6 * j))), (3, .ref o), (2, .ref (q' 0)), (1, .ref (q 0)), (0, .ref b)] []) : GW p l e room_1 s m args below meth c D A 7 (74 + j) (1518 + 6 * j) Q (wM Y q' v ++ (wC Y q u ++ outW Y o f)) 595 [(4, .int (nI (6 * j))), (3, .ref o), (2, .ref (q' 0)), (1, .ref (q 0)), (0, .ref b)] [] := by
  obtain ⟨k, r, u1, b9, v1, eC, hk, eM, eT, eV, eR⟩ := S u v hR (xs (nI (6 * j) + nI 1).toNatClampNeg) (xs (nI (6 * j) + nI 2).toNatClampNeg)
  refine g_aload_n F dL_law_595 3 rfl rfl ?_
  refine g_aload_n F dL_law_596 4 rfl rfl ?_
  refine g_iload F dL_law_597 0 rfl ?_
  refine g_iconst (v := nI 1) F dL_law_599 (by decide) ?_
  refine g_iadd F dL_law_600 ?_
  refine g_sld F HX (scr_in hj hL 1 (by decide)) dL_law_601 ?_
  refine g_aload_n F dL_law_602 4 rfl rfl ?_
  refine g_iload F dL_law_603 0 rfl ?_
  refine g_iconst (v := nI 2) F dL_law_605 (by decide) ?_
  refine g_iadd F dL_law_606 ?_
  refine g_sld F HX (scr_in hj hL 2 (by decide)) dL_law_607 ?_
  refine g_aload_n F dL_law_608 1 rfl rfl ?_
  refine g_callW (n := 4) (ws1 := wM Y q' v ++ (wC Y q u1 ++ outW Y o (if k = 0 then vp_updL f 0 (if r = 0 then (0 : Int64) else 1) else f))) F hKX (wM Y q' v) [] (wL_paper eC hk hl9) (List.append_nil _).symm (List.append_nil _) (by unfold mOK; decide +kernel) rfl cw_yL_paper ml_L_119 st_yL_paper in_L ⟨Nat.le_of_ble_eq_true rfl, Nat.le_of_ble_eq_true rfl⟩ ⟨by show 74 + j + 1 ≤ 601024; omega, by show 1518 + 6 * j + 6 ≤ 7293034; omega⟩ rfl (Nat.le_of_ble_eq_true rfl) dL_law_609 ?_
  refine g_istore (lv' := [(5, .int ((if k = 0 then 0 else if k = 1 then 1 else 0))), (4, .int (nI (6 * j))), (3, .ref o), (2, .ref (q' 0)), (1, .ref (q 0)), (0, .ref b)]) F dL_law_612 (by decide) rfl ?_
  refine g_aload_n F dL_law_614 3 rfl rfl ?_
  refine g_aload_n F dL_law_615 5 rfl rfl ?_
  refine g_iload F dL_law_616 1 rfl ?_
  refine g_iconst (v := nI 1) F dL_law_618 (by decide) ?_
  refine g_iadd F dL_law_619 ?_
  refine g_sld F HX (scr_in hj hL 1 (by decide)) dL_law_620 ?_
  refine g_aload_n F dL_law_621 5 rfl rfl ?_
  refine g_iload F dL_law_622 1 rfl ?_
  refine g_iconst (v := nI 2) F dL_law_624 (by decide) ?_
  refine g_iadd F dL_law_625 ?_
  refine g_sld F HX (scr_in hj hL 2 (by decide)) dL_law_626 ?_
  refine g_callVi (n := 2) (q0 := 0) (As := [.int (xs (nI (6 * j) + nI 1).toNatClampNeg), .int (xs (nI (6 * j) + nI 2).toNatClampNeg)]) (ws1 := wM Y q' v1 ++ (wC Y q u1 ++ outW Y o (if k = 0 then vp_updL f 0 (if r = 0 then (0 : Int64) else 1) else f))) F [] (wC Y q u1 ++ outW Y o (if k = 0 then vp_updL f 0 (if r = 0 then (0 : Int64) else 1) else f)) (kX7_paper eM) rfl rfl (by unfold mOK; decide +kernel) rfl rfl cd_yX7_paper ml_L_121 im_yX7_paper se_yX7_paper in_X7 rfl rfl ⟨Nat.le_of_ble_eq_true rfl, Nat.le_of_ble_eq_true rfl⟩ ⟨by show 74 + j + 1 ≤ 601024; omega, by show 1518 + 6 * j + 6 ≤ 7293034; omega⟩ rfl (Nat.le_of_ble_eq_true rfl) dL_law_627 ?_
  refine g_istore (lv' := [(6, .int (b9)), (5, .int ((if k = 0 then 0 else if k = 1 then 1 else 0))), (4, .int (nI (6 * j))), (3, .ref o), (2, .ref (q' 0)), (1, .ref (q 0)), (0, .ref b)]) F dL_law_630 (by decide) rfl ?_
  refine g_aload_n F dL_law_632 4 rfl rfl ?_
  refine g_callVi (n := 0) (q0 := 0) (As := []) (ws1 := wM Y q' v1 ++ (wC Y q u1 ++ outW Y o (if k = 0 then vp_updL f 0 (if r = 0 then (0 : Int64) else 1) else f))) F [] (wC Y q u1 ++ outW Y o (if k = 0 then vp_updL f 0 (if r = 0 then (0 : Int64) else 1) else f)) (kX7_thrown (u := v1) (u1 := v1) (r := v1.2 0) rfl) rfl rfl (by unfold mOK; decide +kernel) rfl rfl cd_yX7_thrown ml_L_97 im_yX7_thrown se_yX7_thrown in_X7 rfl rfl ⟨Nat.le_of_ble_eq_true rfl, Nat.le_of_ble_eq_true rfl⟩ ⟨by show 74 + j + 1 ≤ 601024; omega, by show 1518 + 6 * j + 6 ≤ 7293034; omega⟩ rfl (Nat.le_of_ble_eq_true rfl) dL_law_633 ?_
  refine g_iload F dL_law_636 1 rfl ?_
  refine g_icmp_eq (tgt := 643) F dL_law_638 (by decide) (fun c1 => ?_) (fun c1 => absurd eT c1)
  refine g_iload F dL_law_643 1 rfl ?_
  refine g_if_ne (tgt := 667) F dL_law_645 (by decide) (fun c7 => ?_) (fun c7 => ?_)
  · refine g_goto (tgt := 1593) F dL_law_667 (by decide) ?_
    refine g_sub [2, 3, 4, 5, 6] rfl ?_
    exact next u1 v1 _ eR
  · have k0 : k = 0 := by
      rcases hk with rfl | rfl
      · rfl
      · exact absurd c7 (by decide)
    subst k0
    obtain rfl := eV rfl
    refine g_aload_n F dL_law_648 3 rfl rfl ?_
    refine g_iconst (v := 0) F dL_law_649 (by decide) ?_
    refine g_lald F 73 rfl (by unfold vp_in; decide) dL_law_650 ?_
    refine g_iload F dL_law_651 0 rfl ?_
    refine g_if_eq (tgt := 660) F dL_law_653 (by decide) (fun c6 => ?_) (fun c6 => ?_)
    · refine g_lconst (v := 0) F dL_law_660 rfl ?_
      refine g_lcmp F dL_law_661 ?_
      refine g_if_eq (tgt := 667) F dL_law_662 (by decide) (fun _ => ?_) (fun c8 => absurd (lgc_eq ?_) c8)
      · refine g_goto (tgt := 1593) F dL_law_667 (by decide) ?_
        refine g_sub [2, 3, 4, 5, 6] rfl ?_
        exact next u1 v1 _ eR
      · rw [if_pos rfl, if_pos c6]; rfl
    · refine g_lconst (v := 1) F dL_law_656 rfl ?_
      refine g_goto (tgt := 661) F dL_law_657 (by decide) ?_
      refine g_lcmp F dL_law_661 ?_
      refine g_if_eq (tgt := 667) F dL_law_662 (by decide) (fun _ => ?_) (fun c8 => absurd (lgc_eq ?_) c8)
      · refine g_goto (tgt := 1593) F dL_law_667 (by decide) ?_
        refine g_sub [2, 3, 4, 5, 6] rfl ?_
        exact next u1 v1 _ eR
      · rw [if_pos rfl, if_neg c6]; rfl
def Sx_skip (Rel : St → St → Prop) : Prop := ∀ u v, Rel u v → ∀ a1 : Int32, ∃ k r u1 b v1, pX6_skip a1 u = some (k, r, u1) ∧ (k = 0 ∨ k = 1 ∨ k = 3) ∧ pX7_skip a1 v = some (b, v1) ∧ v1.2 0 = (if k = 0 then 0 else if k = 1 then 1 else if k = 3 then 2 else 0) ∧ (k = 0 → r = b) ∧ Rel u1 v1
set_option maxHeartbeats 4000000 in
set_option maxRecDepth 20000 in
theorem L_skip {p : Program} {l : Launch} {e : Env} {s : State} {m : MethodId} {args : Array Value} {below : List Frame} {meth : Method} {c : Code} {D : va_G} {Y : Nat → ClassId} {A : Nat → Prop} {Q : State → Prop} (F : Fx p s m args c D Y A code 7 RL) {b L : Nat} {xs : Nat → Int32} (HX : va_X b L xs s s.heap ∧ b < s.heap.size ∧ ¬ A b) (hKX : KX A s) (hl9 : l.stackTraces = false) {j : Nat} (hj : 6 * j + 6 ≤ L) (hL : L ≤ 3072) {q q' : Nat → Nat} {o : Nat} {u v : St} {f : Nat → Int64} {Rel : St → St → Prop} (S : Sx_skip Rel) (hR : Rel u v) (next : ∀ u1 v1 f1, Rel u1 v1 → GW p l e room_1 s m args below meth c D A 7 (74 + j + 1) (1518 + 6 * j + 6) Q (wM Y q' v1 ++ (wC Y q u1 ++ outW Y o f1)) 1593 [(4, .int (nI (6 * j))), (3, .ref o), (2, .ref (q' 0)), (1, .ref (q 0)), (0, .ref b)] []) : GW p l e room_1 s m args below meth c D A 7 (74 + j) (1518 + 6 * j) Q (wM Y q' v ++ (wC Y q u ++ outW Y o f)) 670 [(4, .int (nI (6 * j))), (3, .ref o), (2, .ref (q' 0)), (1, .ref (q 0)), (0, .ref b)] [] := by
  obtain ⟨k, r, u1, b9, v1, eC, hk, eM, eT, eV, eR⟩ := S u v hR (xs (nI (6 * j) + nI 1).toNatClampNeg)
  refine g_aload_n F dL_law_670 3 rfl rfl ?_
  refine g_aload_n F dL_law_671 4 rfl rfl ?_
  refine g_iload F dL_law_672 0 rfl ?_
  refine g_iconst (v := nI 1) F dL_law_674 (by decide) ?_
  refine g_iadd F dL_law_675 ?_
  refine g_sld F HX (scr_in hj hL 1 (by decide)) dL_law_676 ?_
  refine g_aload_n F dL_law_677 1 rfl rfl ?_
  refine g_callW (n := 3) (ws1 := wM Y q' v ++ (wC Y q u1 ++ outW Y o (if k = 0 then vp_updL f 0 r.toInt64 else f))) F hKX (wM Y q' v) [] (wL_skip eC hk hl9) (List.append_nil _).symm (List.append_nil _) (by unfold mOK; decide +kernel) rfl cw_yL_skip ml_L_122 st_yL_skip in_L ⟨Nat.le_of_ble_eq_true rfl, Nat.le_of_ble_eq_true rfl⟩ ⟨by show 74 + j + 1 ≤ 601024; omega, by show 1518 + 6 * j + 6 ≤ 7293034; omega⟩ rfl (Nat.le_of_ble_eq_true rfl) dL_law_678 ?_
  refine g_istore (lv' := [(5, .int ((if k = 0 then 0 else if k = 1 then 1 else if k = 3 then 2 else 0))), (4, .int (nI (6 * j))), (3, .ref o), (2, .ref (q' 0)), (1, .ref (q 0)), (0, .ref b)]) F dL_law_681 (by decide) rfl ?_
  refine g_aload_n F dL_law_683 3 rfl rfl ?_
  refine g_aload_n F dL_law_684 5 rfl rfl ?_
  refine g_iload F dL_law_685 1 rfl ?_
  refine g_iconst (v := nI 1) F dL_law_687 (by decide) ?_
  refine g_iadd F dL_law_688 ?_
  refine g_sld F HX (scr_in hj hL 1 (by decide)) dL_law_689 ?_
  refine g_callVi (n := 1) (q0 := 0) (As := [.int (xs (nI (6 * j) + nI 1).toNatClampNeg)]) (ws1 := wM Y q' v1 ++ (wC Y q u1 ++ outW Y o (if k = 0 then vp_updL f 0 r.toInt64 else f))) F [] (wC Y q u1 ++ outW Y o (if k = 0 then vp_updL f 0 r.toInt64 else f)) (kX7_skip eM) rfl rfl (by unfold mOK; decide +kernel) rfl rfl cd_yX7_skip ml_L_124 im_yX7_skip se_yX7_skip in_X7 rfl rfl ⟨Nat.le_of_ble_eq_true rfl, Nat.le_of_ble_eq_true rfl⟩ ⟨by show 74 + j + 1 ≤ 601024; omega, by show 1518 + 6 * j + 6 ≤ 7293034; omega⟩ rfl (Nat.le_of_ble_eq_true rfl) dL_law_690 ?_
  refine g_istore (lv' := [(6, .int (b9)), (5, .int ((if k = 0 then 0 else if k = 1 then 1 else if k = 3 then 2 else 0))), (4, .int (nI (6 * j))), (3, .ref o), (2, .ref (q' 0)), (1, .ref (q 0)), (0, .ref b)]) F dL_law_693 (by decide) rfl ?_
  refine g_aload_n F dL_law_695 4 rfl rfl ?_
  refine g_callVi (n := 0) (q0 := 0) (As := []) (ws1 := wM Y q' v1 ++ (wC Y q u1 ++ outW Y o (if k = 0 then vp_updL f 0 r.toInt64 else f))) F [] (wC Y q u1 ++ outW Y o (if k = 0 then vp_updL f 0 r.toInt64 else f)) (kX7_thrown (u := v1) (u1 := v1) (r := v1.2 0) rfl) rfl rfl (by unfold mOK; decide +kernel) rfl rfl cd_yX7_thrown ml_L_97 im_yX7_thrown se_yX7_thrown in_X7 rfl rfl ⟨Nat.le_of_ble_eq_true rfl, Nat.le_of_ble_eq_true rfl⟩ ⟨by show 74 + j + 1 ≤ 601024; omega, by show 1518 + 6 * j + 6 ≤ 7293034; omega⟩ rfl (Nat.le_of_ble_eq_true rfl) dL_law_696 ?_
  refine g_iload F dL_law_699 1 rfl ?_
  refine g_icmp_eq (tgt := 706) F dL_law_701 (by decide) (fun c1 => ?_) (fun c1 => absurd eT c1)
  refine g_iload F dL_law_706 1 rfl ?_
  refine g_if_ne (tgt := 723) F dL_law_708 (by decide) (fun c7 => ?_) (fun c7 => ?_)
  · refine g_goto (tgt := 1593) F dL_law_723 (by decide) ?_
    refine g_sub [2, 3, 4, 5, 6] rfl ?_
    exact next u1 v1 _ eR
  · have k0 : k = 0 := by
      rcases hk with rfl | rfl | rfl
      · rfl
      · exact absurd c7 (by decide)
      · exact absurd c7 (by decide)
    subst k0
    obtain rfl := eV rfl
    refine g_aload_n F dL_law_711 3 rfl rfl ?_
    refine g_iconst (v := 0) F dL_law_712 (by decide) ?_
    refine g_lald F 73 rfl (by unfold vp_in; decide) dL_law_713 ?_
    refine g_iload F dL_law_714 0 rfl ?_
    refine g_i2l F dL_law_716 rfl ?_
    refine g_lcmp F dL_law_717 ?_
    refine g_if_eq (tgt := 723) F dL_law_718 (by decide) (fun _ => ?_) (fun c8 => absurd (lgc_eq ?_) c8)
    · refine g_goto (tgt := 1593) F dL_law_723 (by decide) ?_
      refine g_sub [2, 3, 4, 5, 6] rfl ?_
      exact next u1 v1 _ eR
    · rw [if_pos rfl]; rfl
def Sx_order (Rel : St → St → Prop) : Prop := ∀ u v, Rel u v → ∀ a1 a2 a3 : Int32, ∃ k r u1 b v1, pX6_order a1 a2 a3 u = some (k, r, u1) ∧ (k = 0 ∨ k = 2 ∨ k = 1 ∨ k = 3) ∧ pX7_order a1 a2 a3 v = some (b, v1) ∧ v1.2 0 = (if k = 0 then 0 else if k = 2 then 1 else if k = 1 then 2 else if k = 3 then 3 else 0) ∧ (k = 0 → r = b) ∧ Rel u1 v1
set_option maxHeartbeats 4000000 in
set_option maxRecDepth 20000 in
theorem L_order {p : Program} {l : Launch} {e : Env} {s : State} {m : MethodId} {args : Array Value} {below : List Frame} {meth : Method} {c : Code} {D : va_G} {Y : Nat → ClassId} {A : Nat → Prop} {Q : State → Prop} (F : Fx p s m args c D Y A code 7 RL) {b L : Nat} {xs : Nat → Int32} (HX : va_X b L xs s s.heap ∧ b < s.heap.size ∧ ¬ A b) (hKX : KX A s) (hl9 : l.stackTraces = false) {j : Nat} (hj : 6 * j + 6 ≤ L) (hL : L ≤ 3072) {q q' : Nat → Nat} {o : Nat} {u v : St} {f : Nat → Int64} {Rel : St → St → Prop} (S : Sx_order Rel) (hR : Rel u v) (next : ∀ u1 v1 f1, Rel u1 v1 → GW p l e room_1 s m args below meth c D A 7 (74 + j + 1) (1518 + 6 * j + 6) Q (wM Y q' v1 ++ (wC Y q u1 ++ outW Y o f1)) 1593 [(4, .int (nI (6 * j))), (3, .ref o), (2, .ref (q' 0)), (1, .ref (q 0)), (0, .ref b)] []) : GW p l e room_1 s m args below meth c D A 7 (74 + j) (1518 + 6 * j) Q (wM Y q' v ++ (wC Y q u ++ outW Y o f)) 726 [(4, .int (nI (6 * j))), (3, .ref o), (2, .ref (q' 0)), (1, .ref (q 0)), (0, .ref b)] [] := by
  obtain ⟨k, r, u1, b9, v1, eC, hk, eM, eT, eV, eR⟩ := S u v hR (xs (nI (6 * j) + nI 1).toNatClampNeg) (xs (nI (6 * j) + nI 2).toNatClampNeg) (xs (nI (6 * j) + nI 3).toNatClampNeg)
  refine g_aload_n F dL_law_726 3 rfl rfl ?_
  refine g_aload_n F dL_law_727 4 rfl rfl ?_
  refine g_iload F dL_law_728 0 rfl ?_
  refine g_iconst (v := nI 1) F dL_law_730 (by decide) ?_
  refine g_iadd F dL_law_731 ?_
  refine g_sld F HX (scr_in hj hL 1 (by decide)) dL_law_732 ?_
  refine g_aload_n F dL_law_733 4 rfl rfl ?_
  refine g_iload F dL_law_734 0 rfl ?_
  refine g_iconst (v := nI 2) F dL_law_736 (by decide) ?_
  refine g_iadd F dL_law_737 ?_
  refine g_sld F HX (scr_in hj hL 2 (by decide)) dL_law_738 ?_
  refine g_aload_n F dL_law_739 4 rfl rfl ?_
  refine g_iload F dL_law_740 0 rfl ?_
  refine g_iconst (v := nI 3) F dL_law_742 (by decide) ?_
  refine g_iadd F dL_law_743 ?_
  refine g_sld F HX (scr_in hj hL 3 (by decide)) dL_law_744 ?_
  refine g_aload_n F dL_law_745 1 rfl rfl ?_
  refine g_callW (n := 5) (ws1 := wM Y q' v ++ (wC Y q u1 ++ outW Y o (if k = 0 then vp_updL f 0 r.toInt64 else f))) F hKX (wM Y q' v) [] (wL_order eC hk hl9) (List.append_nil _).symm (List.append_nil _) (by unfold mOK; decide +kernel) rfl cw_yL_order ml_L_125 st_yL_order in_L ⟨Nat.le_of_ble_eq_true rfl, Nat.le_of_ble_eq_true rfl⟩ ⟨by show 74 + j + 1 ≤ 601024; omega, by show 1518 + 6 * j + 6 ≤ 7293034; omega⟩ rfl (Nat.le_of_ble_eq_true rfl) dL_law_746 ?_
  refine g_istore (lv' := [(5, .int ((if k = 0 then 0 else if k = 2 then 1 else if k = 1 then 2 else if k = 3 then 3 else 0))), (4, .int (nI (6 * j))), (3, .ref o), (2, .ref (q' 0)), (1, .ref (q 0)), (0, .ref b)]) F dL_law_749 (by decide) rfl ?_
  refine g_aload_n F dL_law_751 3 rfl rfl ?_
  refine g_aload_n F dL_law_752 5 rfl rfl ?_
  refine g_iload F dL_law_753 1 rfl ?_
  refine g_iconst (v := nI 1) F dL_law_755 (by decide) ?_
  refine g_iadd F dL_law_756 ?_
  refine g_sld F HX (scr_in hj hL 1 (by decide)) dL_law_757 ?_
  refine g_aload_n F dL_law_758 5 rfl rfl ?_
  refine g_iload F dL_law_759 1 rfl ?_
  refine g_iconst (v := nI 2) F dL_law_761 (by decide) ?_
  refine g_iadd F dL_law_762 ?_
  refine g_sld F HX (scr_in hj hL 2 (by decide)) dL_law_763 ?_
  refine g_aload_n F dL_law_764 5 rfl rfl ?_
  refine g_iload F dL_law_765 1 rfl ?_
  refine g_iconst (v := nI 3) F dL_law_767 (by decide) ?_
  refine g_iadd F dL_law_768 ?_
  refine g_sld F HX (scr_in hj hL 3 (by decide)) dL_law_769 ?_
  refine g_callVi (n := 3) (q0 := 0) (As := [.int (xs (nI (6 * j) + nI 1).toNatClampNeg), .int (xs (nI (6 * j) + nI 2).toNatClampNeg), .int (xs (nI (6 * j) + nI 3).toNatClampNeg)]) (ws1 := wM Y q' v1 ++ (wC Y q u1 ++ outW Y o (if k = 0 then vp_updL f 0 r.toInt64 else f))) F [] (wC Y q u1 ++ outW Y o (if k = 0 then vp_updL f 0 r.toInt64 else f)) (kX7_order eM) rfl rfl (by unfold mOK; decide +kernel) rfl rfl cd_yX7_order ml_L_128 im_yX7_order se_yX7_order in_X7 rfl rfl ⟨Nat.le_of_ble_eq_true rfl, Nat.le_of_ble_eq_true rfl⟩ ⟨by show 74 + j + 1 ≤ 601024; omega, by show 1518 + 6 * j + 6 ≤ 7293034; omega⟩ rfl (Nat.le_of_ble_eq_true rfl) dL_law_770 ?_
  refine g_istore (lv' := [(6, .int (b9)), (5, .int ((if k = 0 then 0 else if k = 2 then 1 else if k = 1 then 2 else if k = 3 then 3 else 0))), (4, .int (nI (6 * j))), (3, .ref o), (2, .ref (q' 0)), (1, .ref (q 0)), (0, .ref b)]) F dL_law_773 (by decide) rfl ?_
  refine g_aload_n F dL_law_775 4 rfl rfl ?_
  refine g_callVi (n := 0) (q0 := 0) (As := []) (ws1 := wM Y q' v1 ++ (wC Y q u1 ++ outW Y o (if k = 0 then vp_updL f 0 r.toInt64 else f))) F [] (wC Y q u1 ++ outW Y o (if k = 0 then vp_updL f 0 r.toInt64 else f)) (kX7_thrown (u := v1) (u1 := v1) (r := v1.2 0) rfl) rfl rfl (by unfold mOK; decide +kernel) rfl rfl cd_yX7_thrown ml_L_97 im_yX7_thrown se_yX7_thrown in_X7 rfl rfl ⟨Nat.le_of_ble_eq_true rfl, Nat.le_of_ble_eq_true rfl⟩ ⟨by show 74 + j + 1 ≤ 601024; omega, by show 1518 + 6 * j + 6 ≤ 7293034; omega⟩ rfl (Nat.le_of_ble_eq_true rfl) dL_law_776 ?_
  refine g_iload F dL_law_779 1 rfl ?_
  refine g_icmp_eq (tgt := 786) F dL_law_781 (by decide) (fun c1 => ?_) (fun c1 => absurd eT c1)
  refine g_iload F dL_law_786 1 rfl ?_
  refine g_if_ne (tgt := 803) F dL_law_788 (by decide) (fun c7 => ?_) (fun c7 => ?_)
  · refine g_goto (tgt := 1593) F dL_law_803 (by decide) ?_
    refine g_sub [2, 3, 4, 5, 6] rfl ?_
    exact next u1 v1 _ eR
  · have k0 : k = 0 := by
      rcases hk with rfl | rfl | rfl | rfl
      · rfl
      · exact absurd c7 (by decide)
      · exact absurd c7 (by decide)
      · exact absurd c7 (by decide)
    subst k0
    obtain rfl := eV rfl
    refine g_aload_n F dL_law_791 3 rfl rfl ?_
    refine g_iconst (v := 0) F dL_law_792 (by decide) ?_
    refine g_lald F 73 rfl (by unfold vp_in; decide) dL_law_793 ?_
    refine g_iload F dL_law_794 0 rfl ?_
    refine g_i2l F dL_law_796 rfl ?_
    refine g_lcmp F dL_law_797 ?_
    refine g_if_eq (tgt := 803) F dL_law_798 (by decide) (fun _ => ?_) (fun c8 => absurd (lgc_eq ?_) c8)
    · refine g_goto (tgt := 1593) F dL_law_803 (by decide) ?_
      refine g_sub [2, 3, 4, 5, 6] rfl ?_
      exact next u1 v1 _ eR
    · rw [if_pos rfl]; rfl
def Sx_drop (Rel : St → St → Prop) : Prop := ∀ u v, Rel u v → ∀ a1 : Int32, ∃ k r u1 b v1, pX6_drop a1 u = some (k, r, u1) ∧ (k = 0 ∨ k = 1) ∧ pX7_drop a1 v = some (b, v1) ∧ v1.2 0 = (if k = 0 then 0 else if k = 1 then 1 else 0) ∧ (k = 0 → r = b) ∧ Rel u1 v1
set_option maxHeartbeats 4000000 in
set_option maxRecDepth 20000 in
theorem L_drop {p : Program} {l : Launch} {e : Env} {s : State} {m : MethodId} {args : Array Value} {below : List Frame} {meth : Method} {c : Code} {D : va_G} {Y : Nat → ClassId} {A : Nat → Prop} {Q : State → Prop} (F : Fx p s m args c D Y A code 7 RL) {b L : Nat} {xs : Nat → Int32} (HX : va_X b L xs s s.heap ∧ b < s.heap.size ∧ ¬ A b) (hKX : KX A s) (hl9 : l.stackTraces = false) {j : Nat} (hj : 6 * j + 6 ≤ L) (hL : L ≤ 3072) {q q' : Nat → Nat} {o : Nat} {u v : St} {f : Nat → Int64} {Rel : St → St → Prop} (S : Sx_drop Rel) (hR : Rel u v) (next : ∀ u1 v1 f1, Rel u1 v1 → GW p l e room_1 s m args below meth c D A 7 (74 + j + 1) (1518 + 6 * j + 6) Q (wM Y q' v1 ++ (wC Y q u1 ++ outW Y o f1)) 1593 [(4, .int (nI (6 * j))), (3, .ref o), (2, .ref (q' 0)), (1, .ref (q 0)), (0, .ref b)] []) : GW p l e room_1 s m args below meth c D A 7 (74 + j) (1518 + 6 * j) Q (wM Y q' v ++ (wC Y q u ++ outW Y o f)) 806 [(4, .int (nI (6 * j))), (3, .ref o), (2, .ref (q' 0)), (1, .ref (q 0)), (0, .ref b)] [] := by
  obtain ⟨k, r, u1, b9, v1, eC, hk, eM, eT, eV, eR⟩ := S u v hR (xs (nI (6 * j) + nI 1).toNatClampNeg)
  refine g_aload_n F dL_law_806 3 rfl rfl ?_
  refine g_aload_n F dL_law_807 4 rfl rfl ?_
  refine g_iload F dL_law_808 0 rfl ?_
  refine g_iconst (v := nI 1) F dL_law_810 (by decide) ?_
  refine g_iadd F dL_law_811 ?_
  refine g_sld F HX (scr_in hj hL 1 (by decide)) dL_law_812 ?_
  refine g_aload_n F dL_law_813 1 rfl rfl ?_
  refine g_callW (n := 3) (ws1 := wM Y q' v ++ (wC Y q u1 ++ outW Y o (if k = 0 then vp_updL f 0 r.toInt64 else f))) F hKX (wM Y q' v) [] (wL_drop eC hk hl9) (List.append_nil _).symm (List.append_nil _) (by unfold mOK; decide +kernel) rfl cw_yL_drop ml_L_129 st_yL_drop in_L ⟨Nat.le_of_ble_eq_true rfl, Nat.le_of_ble_eq_true rfl⟩ ⟨by show 74 + j + 1 ≤ 601024; omega, by show 1518 + 6 * j + 6 ≤ 7293034; omega⟩ rfl (Nat.le_of_ble_eq_true rfl) dL_law_814 ?_
  refine g_istore (lv' := [(5, .int ((if k = 0 then 0 else if k = 1 then 1 else 0))), (4, .int (nI (6 * j))), (3, .ref o), (2, .ref (q' 0)), (1, .ref (q 0)), (0, .ref b)]) F dL_law_817 (by decide) rfl ?_
  refine g_aload_n F dL_law_819 3 rfl rfl ?_
  refine g_aload_n F dL_law_820 5 rfl rfl ?_
  refine g_iload F dL_law_821 1 rfl ?_
  refine g_iconst (v := nI 1) F dL_law_823 (by decide) ?_
  refine g_iadd F dL_law_824 ?_
  refine g_sld F HX (scr_in hj hL 1 (by decide)) dL_law_825 ?_
  refine g_callVi (n := 1) (q0 := 0) (As := [.int (xs (nI (6 * j) + nI 1).toNatClampNeg)]) (ws1 := wM Y q' v1 ++ (wC Y q u1 ++ outW Y o (if k = 0 then vp_updL f 0 r.toInt64 else f))) F [] (wC Y q u1 ++ outW Y o (if k = 0 then vp_updL f 0 r.toInt64 else f)) (kX7_drop eM) rfl rfl (by unfold mOK; decide +kernel) rfl rfl cd_yX7_drop ml_L_131 im_yX7_drop se_yX7_drop in_X7 rfl rfl ⟨Nat.le_of_ble_eq_true rfl, Nat.le_of_ble_eq_true rfl⟩ ⟨by show 74 + j + 1 ≤ 601024; omega, by show 1518 + 6 * j + 6 ≤ 7293034; omega⟩ rfl (Nat.le_of_ble_eq_true rfl) dL_law_826 ?_
  refine g_istore (lv' := [(6, .int (b9)), (5, .int ((if k = 0 then 0 else if k = 1 then 1 else 0))), (4, .int (nI (6 * j))), (3, .ref o), (2, .ref (q' 0)), (1, .ref (q 0)), (0, .ref b)]) F dL_law_829 (by decide) rfl ?_
  refine g_aload_n F dL_law_831 4 rfl rfl ?_
  refine g_callVi (n := 0) (q0 := 0) (As := []) (ws1 := wM Y q' v1 ++ (wC Y q u1 ++ outW Y o (if k = 0 then vp_updL f 0 r.toInt64 else f))) F [] (wC Y q u1 ++ outW Y o (if k = 0 then vp_updL f 0 r.toInt64 else f)) (kX7_thrown (u := v1) (u1 := v1) (r := v1.2 0) rfl) rfl rfl (by unfold mOK; decide +kernel) rfl rfl cd_yX7_thrown ml_L_97 im_yX7_thrown se_yX7_thrown in_X7 rfl rfl ⟨Nat.le_of_ble_eq_true rfl, Nat.le_of_ble_eq_true rfl⟩ ⟨by show 74 + j + 1 ≤ 601024; omega, by show 1518 + 6 * j + 6 ≤ 7293034; omega⟩ rfl (Nat.le_of_ble_eq_true rfl) dL_law_832 ?_
  refine g_iload F dL_law_835 1 rfl ?_
  refine g_icmp_eq (tgt := 842) F dL_law_837 (by decide) (fun c1 => ?_) (fun c1 => absurd eT c1)
  refine g_iload F dL_law_842 1 rfl ?_
  refine g_if_ne (tgt := 859) F dL_law_844 (by decide) (fun c7 => ?_) (fun c7 => ?_)
  · refine g_goto (tgt := 1593) F dL_law_859 (by decide) ?_
    refine g_sub [2, 3, 4, 5, 6] rfl ?_
    exact next u1 v1 _ eR
  · have k0 : k = 0 := by
      rcases hk with rfl | rfl
      · rfl
      · exact absurd c7 (by decide)
    subst k0
    obtain rfl := eV rfl
    refine g_aload_n F dL_law_847 3 rfl rfl ?_
    refine g_iconst (v := 0) F dL_law_848 (by decide) ?_
    refine g_lald F 73 rfl (by unfold vp_in; decide) dL_law_849 ?_
    refine g_iload F dL_law_850 0 rfl ?_
    refine g_i2l F dL_law_852 rfl ?_
    refine g_lcmp F dL_law_853 ?_
    refine g_if_eq (tgt := 859) F dL_law_854 (by decide) (fun _ => ?_) (fun c8 => absurd (lgc_eq ?_) c8)
    · refine g_goto (tgt := 1593) F dL_law_859 (by decide) ?_
      refine g_sub [2, 3, 4, 5, 6] rfl ?_
      exact next u1 v1 _ eR
    · rw [if_pos rfl]; rfl
def Sx_pass (Rel : St → St → Prop) : Prop := ∀ u v, Rel u v → ∀ a1 : Int32, ∃ k r u1 b v1, pX6_pass a1 u = some (k, r, u1) ∧ (k = 0 ∨ k = 2 ∨ k = 3) ∧ pX7_pass a1 v = some (b, v1) ∧ v1.2 0 = (if k = 0 then 0 else if k = 2 then 1 else if k = 3 then 2 else 0) ∧ (k = 0 → r = b) ∧ Rel u1 v1
set_option maxHeartbeats 4000000 in
set_option maxRecDepth 20000 in
theorem L_pass {p : Program} {l : Launch} {e : Env} {s : State} {m : MethodId} {args : Array Value} {below : List Frame} {meth : Method} {c : Code} {D : va_G} {Y : Nat → ClassId} {A : Nat → Prop} {Q : State → Prop} (F : Fx p s m args c D Y A code 7 RL) {b L : Nat} {xs : Nat → Int32} (HX : va_X b L xs s s.heap ∧ b < s.heap.size ∧ ¬ A b) (hKX : KX A s) (hl9 : l.stackTraces = false) {j : Nat} (hj : 6 * j + 6 ≤ L) (hL : L ≤ 3072) {q q' : Nat → Nat} {o : Nat} {u v : St} {f : Nat → Int64} {Rel : St → St → Prop} (S : Sx_pass Rel) (hR : Rel u v) (next : ∀ u1 v1 f1, Rel u1 v1 → GW p l e room_1 s m args below meth c D A 7 (74 + j + 1) (1518 + 6 * j + 6) Q (wM Y q' v1 ++ (wC Y q u1 ++ outW Y o f1)) 1593 [(4, .int (nI (6 * j))), (3, .ref o), (2, .ref (q' 0)), (1, .ref (q 0)), (0, .ref b)] []) : GW p l e room_1 s m args below meth c D A 7 (74 + j) (1518 + 6 * j) Q (wM Y q' v ++ (wC Y q u ++ outW Y o f)) 862 [(4, .int (nI (6 * j))), (3, .ref o), (2, .ref (q' 0)), (1, .ref (q 0)), (0, .ref b)] [] := by
  obtain ⟨k, r, u1, b9, v1, eC, hk, eM, eT, eV, eR⟩ := S u v hR (xs (nI (6 * j) + nI 1).toNatClampNeg)
  refine g_aload_n F dL_law_862 3 rfl rfl ?_
  refine g_aload_n F dL_law_863 4 rfl rfl ?_
  refine g_iload F dL_law_864 0 rfl ?_
  refine g_iconst (v := nI 1) F dL_law_866 (by decide) ?_
  refine g_iadd F dL_law_867 ?_
  refine g_sld F HX (scr_in hj hL 1 (by decide)) dL_law_868 ?_
  refine g_aload_n F dL_law_869 1 rfl rfl ?_
  refine g_callW (n := 3) (ws1 := wM Y q' v ++ (wC Y q u1 ++ outW Y o (if k = 0 then vp_updL f 0 r.toInt64 else f))) F hKX (wM Y q' v) [] (wL_pass eC hk hl9) (List.append_nil _).symm (List.append_nil _) (by unfold mOK; decide +kernel) rfl cw_yL_pass ml_L_132 st_yL_pass in_L ⟨Nat.le_of_ble_eq_true rfl, Nat.le_of_ble_eq_true rfl⟩ ⟨by show 74 + j + 1 ≤ 601024; omega, by show 1518 + 6 * j + 6 ≤ 7293034; omega⟩ rfl (Nat.le_of_ble_eq_true rfl) dL_law_870 ?_
  refine g_istore (lv' := [(5, .int ((if k = 0 then 0 else if k = 2 then 1 else if k = 3 then 2 else 0))), (4, .int (nI (6 * j))), (3, .ref o), (2, .ref (q' 0)), (1, .ref (q 0)), (0, .ref b)]) F dL_law_873 (by decide) rfl ?_
  refine g_aload_n F dL_law_875 3 rfl rfl ?_
  refine g_aload_n F dL_law_876 5 rfl rfl ?_
  refine g_iload F dL_law_877 1 rfl ?_
  refine g_iconst (v := nI 1) F dL_law_879 (by decide) ?_
  refine g_iadd F dL_law_880 ?_
  refine g_sld F HX (scr_in hj hL 1 (by decide)) dL_law_881 ?_
  refine g_callVi (n := 1) (q0 := 0) (As := [.int (xs (nI (6 * j) + nI 1).toNatClampNeg)]) (ws1 := wM Y q' v1 ++ (wC Y q u1 ++ outW Y o (if k = 0 then vp_updL f 0 r.toInt64 else f))) F [] (wC Y q u1 ++ outW Y o (if k = 0 then vp_updL f 0 r.toInt64 else f)) (kX7_pass eM) rfl rfl (by unfold mOK; decide +kernel) rfl rfl cd_yX7_pass ml_L_134 im_yX7_pass se_yX7_pass in_X7 rfl rfl ⟨Nat.le_of_ble_eq_true rfl, Nat.le_of_ble_eq_true rfl⟩ ⟨by show 74 + j + 1 ≤ 601024; omega, by show 1518 + 6 * j + 6 ≤ 7293034; omega⟩ rfl (Nat.le_of_ble_eq_true rfl) dL_law_882 ?_
  refine g_istore (lv' := [(6, .int (b9)), (5, .int ((if k = 0 then 0 else if k = 2 then 1 else if k = 3 then 2 else 0))), (4, .int (nI (6 * j))), (3, .ref o), (2, .ref (q' 0)), (1, .ref (q 0)), (0, .ref b)]) F dL_law_885 (by decide) rfl ?_
  refine g_aload_n F dL_law_887 4 rfl rfl ?_
  refine g_callVi (n := 0) (q0 := 0) (As := []) (ws1 := wM Y q' v1 ++ (wC Y q u1 ++ outW Y o (if k = 0 then vp_updL f 0 r.toInt64 else f))) F [] (wC Y q u1 ++ outW Y o (if k = 0 then vp_updL f 0 r.toInt64 else f)) (kX7_thrown (u := v1) (u1 := v1) (r := v1.2 0) rfl) rfl rfl (by unfold mOK; decide +kernel) rfl rfl cd_yX7_thrown ml_L_97 im_yX7_thrown se_yX7_thrown in_X7 rfl rfl ⟨Nat.le_of_ble_eq_true rfl, Nat.le_of_ble_eq_true rfl⟩ ⟨by show 74 + j + 1 ≤ 601024; omega, by show 1518 + 6 * j + 6 ≤ 7293034; omega⟩ rfl (Nat.le_of_ble_eq_true rfl) dL_law_888 ?_
  refine g_iload F dL_law_891 1 rfl ?_
  refine g_icmp_eq (tgt := 898) F dL_law_893 (by decide) (fun c1 => ?_) (fun c1 => absurd eT c1)
  refine g_iload F dL_law_898 1 rfl ?_
  refine g_if_ne (tgt := 915) F dL_law_900 (by decide) (fun c7 => ?_) (fun c7 => ?_)
  · refine g_goto (tgt := 1593) F dL_law_915 (by decide) ?_
    refine g_sub [2, 3, 4, 5, 6] rfl ?_
    exact next u1 v1 _ eR
  · have k0 : k = 0 := by
      rcases hk with rfl | rfl | rfl
      · rfl
      · exact absurd c7 (by decide)
      · exact absurd c7 (by decide)
    subst k0
    obtain rfl := eV rfl
    refine g_aload_n F dL_law_903 3 rfl rfl ?_
    refine g_iconst (v := 0) F dL_law_904 (by decide) ?_
    refine g_lald F 73 rfl (by unfold vp_in; decide) dL_law_905 ?_
    refine g_iload F dL_law_906 0 rfl ?_
    refine g_i2l F dL_law_908 rfl ?_
    refine g_lcmp F dL_law_909 ?_
    refine g_if_eq (tgt := 915) F dL_law_910 (by decide) (fun _ => ?_) (fun c8 => absurd (lgc_eq ?_) c8)
    · refine g_goto (tgt := 1593) F dL_law_915 (by decide) ?_
      refine g_sub [2, 3, 4, 5, 6] rfl ?_
      exact next u1 v1 _ eR
    · rw [if_pos rfl]; rfl
def Sx_leave (Rel : St → St → Prop) : Prop := ∀ u v, Rel u v → ∃ k r u1 b v1, pX6_leave  u = some (k, r, u1) ∧ (k = 0 ∨ k = 3) ∧ pX7_leave  v = some (b, v1) ∧ v1.2 0 = (if k = 0 then 0 else if k = 3 then 1 else 0) ∧ (k = 0 → r = b) ∧ Rel u1 v1
set_option maxHeartbeats 4000000 in
set_option maxRecDepth 20000 in
theorem L_leave {p : Program} {l : Launch} {e : Env} {s : State} {m : MethodId} {args : Array Value} {below : List Frame} {meth : Method} {c : Code} {D : va_G} {Y : Nat → ClassId} {A : Nat → Prop} {Q : State → Prop} (F : Fx p s m args c D Y A code 7 RL) {b L : Nat} {xs : Nat → Int32} (HX : va_X b L xs s s.heap ∧ b < s.heap.size ∧ ¬ A b) (hKX : KX A s) (hl9 : l.stackTraces = false) {j : Nat} (hj : 6 * j + 6 ≤ L) (hL : L ≤ 3072) {q q' : Nat → Nat} {o : Nat} {u v : St} {f : Nat → Int64} {Rel : St → St → Prop} (S : Sx_leave Rel) (hR : Rel u v) (next : ∀ u1 v1 f1, Rel u1 v1 → GW p l e room_1 s m args below meth c D A 7 (74 + j + 1) (1518 + 6 * j + 6) Q (wM Y q' v1 ++ (wC Y q u1 ++ outW Y o f1)) 1593 [(4, .int (nI (6 * j))), (3, .ref o), (2, .ref (q' 0)), (1, .ref (q 0)), (0, .ref b)] []) : GW p l e room_1 s m args below meth c D A 7 (74 + j) (1518 + 6 * j) Q (wM Y q' v ++ (wC Y q u ++ outW Y o f)) 918 [(4, .int (nI (6 * j))), (3, .ref o), (2, .ref (q' 0)), (1, .ref (q 0)), (0, .ref b)] [] := by
  obtain ⟨k, r, u1, b9, v1, eC, hk, eM, eT, eV, eR⟩ := S u v hR 
  refine g_aload_n F dL_law_918 3 rfl rfl ?_
  refine g_aload_n F dL_law_919 1 rfl rfl ?_
  refine g_callW (n := 2) (ws1 := wM Y q' v ++ (wC Y q u1 ++ outW Y o (if k = 0 then vp_updL f 0 r.toInt64 else f))) F hKX (wM Y q' v) [] (wL_leave eC hk hl9) (List.append_nil _).symm (List.append_nil _) (by unfold mOK; decide +kernel) rfl cw_yL_leave ml_L_135 st_yL_leave in_L ⟨Nat.le_of_ble_eq_true rfl, Nat.le_of_ble_eq_true rfl⟩ ⟨by show 74 + j + 1 ≤ 601024; omega, by show 1518 + 6 * j + 6 ≤ 7293034; omega⟩ rfl (Nat.le_of_ble_eq_true rfl) dL_law_920 ?_
  refine g_istore (lv' := [(5, .int ((if k = 0 then 0 else if k = 3 then 1 else 0))), (4, .int (nI (6 * j))), (3, .ref o), (2, .ref (q' 0)), (1, .ref (q 0)), (0, .ref b)]) F dL_law_923 (by decide) rfl ?_
  refine g_aload_n F dL_law_925 3 rfl rfl ?_
  refine g_callVi (n := 0) (q0 := 0) (As := []) (ws1 := wM Y q' v1 ++ (wC Y q u1 ++ outW Y o (if k = 0 then vp_updL f 0 r.toInt64 else f))) F [] (wC Y q u1 ++ outW Y o (if k = 0 then vp_updL f 0 r.toInt64 else f)) (kX7_leave eM) rfl rfl (by unfold mOK; decide +kernel) rfl rfl cd_yX7_leave ml_L_138 im_yX7_leave se_yX7_leave in_X7 rfl rfl ⟨Nat.le_of_ble_eq_true rfl, Nat.le_of_ble_eq_true rfl⟩ ⟨by show 74 + j + 1 ≤ 601024; omega, by show 1518 + 6 * j + 6 ≤ 7293034; omega⟩ rfl (Nat.le_of_ble_eq_true rfl) dL_law_926 ?_
  refine g_istore (lv' := [(6, .int (b9)), (5, .int ((if k = 0 then 0 else if k = 3 then 1 else 0))), (4, .int (nI (6 * j))), (3, .ref o), (2, .ref (q' 0)), (1, .ref (q 0)), (0, .ref b)]) F dL_law_929 (by decide) rfl ?_
  refine g_aload_n F dL_law_931 4 rfl rfl ?_
  refine g_callVi (n := 0) (q0 := 0) (As := []) (ws1 := wM Y q' v1 ++ (wC Y q u1 ++ outW Y o (if k = 0 then vp_updL f 0 r.toInt64 else f))) F [] (wC Y q u1 ++ outW Y o (if k = 0 then vp_updL f 0 r.toInt64 else f)) (kX7_thrown (u := v1) (u1 := v1) (r := v1.2 0) rfl) rfl rfl (by unfold mOK; decide +kernel) rfl rfl cd_yX7_thrown ml_L_97 im_yX7_thrown se_yX7_thrown in_X7 rfl rfl ⟨Nat.le_of_ble_eq_true rfl, Nat.le_of_ble_eq_true rfl⟩ ⟨by show 74 + j + 1 ≤ 601024; omega, by show 1518 + 6 * j + 6 ≤ 7293034; omega⟩ rfl (Nat.le_of_ble_eq_true rfl) dL_law_932 ?_
  refine g_iload F dL_law_935 1 rfl ?_
  refine g_icmp_eq (tgt := 942) F dL_law_937 (by decide) (fun c1 => ?_) (fun c1 => absurd eT c1)
  refine g_iload F dL_law_942 1 rfl ?_
  refine g_if_ne (tgt := 959) F dL_law_944 (by decide) (fun c7 => ?_) (fun c7 => ?_)
  · refine g_goto (tgt := 1593) F dL_law_959 (by decide) ?_
    refine g_sub [2, 3, 4, 5, 6] rfl ?_
    exact next u1 v1 _ eR
  · have k0 : k = 0 := by
      rcases hk with rfl | rfl
      · rfl
      · exact absurd c7 (by decide)
    subst k0
    obtain rfl := eV rfl
    refine g_aload_n F dL_law_947 3 rfl rfl ?_
    refine g_iconst (v := 0) F dL_law_948 (by decide) ?_
    refine g_lald F 73 rfl (by unfold vp_in; decide) dL_law_949 ?_
    refine g_iload F dL_law_950 0 rfl ?_
    refine g_i2l F dL_law_952 rfl ?_
    refine g_lcmp F dL_law_953 ?_
    refine g_if_eq (tgt := 959) F dL_law_954 (by decide) (fun _ => ?_) (fun c8 => absurd (lgc_eq ?_) c8)
    · refine g_goto (tgt := 1593) F dL_law_959 (by decide) ?_
      refine g_sub [2, 3, 4, 5, 6] rfl ?_
      exact next u1 v1 _ eR
    · rw [if_pos rfl]; rfl
def Sx_hour (Rel : St → St → Prop) : Prop := ∀ u v, Rel u v → ∃ r u1 v1, pX6_hour u = some (r, u1) ∧ pX7_hour v = some (r, v1) ∧ Rel u1 v1
set_option maxHeartbeats 4000000 in
set_option maxRecDepth 20000 in
theorem L_hour {p : Program} {l : Launch} {e : Env} {s : State} {m : MethodId} {args : Array Value} {below : List Frame} {meth : Method} {c : Code} {D : va_G} {Y : Nat → ClassId} {A : Nat → Prop} {Q : State → Prop} (F : Fx p s m args c D Y A code 7 RL) {b L : Nat} {xs : Nat → Int32} (HX : va_X b L xs s s.heap ∧ b < s.heap.size ∧ ¬ A b) (hKX : KX A s) (hl9 : l.stackTraces = false) {j : Nat} (hj : 6 * j + 6 ≤ L) (hL : L ≤ 3072) {q q' : Nat → Nat} {o : Nat} {u v : St} {f : Nat → Int64} {Rel : St → St → Prop} (S : Sx_hour Rel) (hR : Rel u v) (next : ∀ u1 v1 f1, Rel u1 v1 → GW p l e room_1 s m args below meth c D A 7 (74 + j + 1) (1518 + 6 * j + 6) Q (wM Y q' v1 ++ (wC Y q u1 ++ outW Y o f1)) 1593 [(4, .int (nI (6 * j))), (3, .ref o), (2, .ref (q' 0)), (1, .ref (q 0)), (0, .ref b)] []) : GW p l e room_1 s m args below meth c D A 7 (74 + j) (1518 + 6 * j) Q (wM Y q' v ++ (wC Y q u ++ outW Y o f)) 962 [(4, .int (nI (6 * j))), (3, .ref o), (2, .ref (q' 0)), (1, .ref (q 0)), (0, .ref b)] [] := by
  obtain ⟨r, u1, v1, eC, eM, eR⟩ := S u v hR
  refine g_aload_n F dL_law_962 3 rfl rfl ?_
  refine g_callVi (n := 0) (q0 := 0) (As := []) (ws1 := wM Y q' v ++ (wC Y q u1 ++ outW Y o f)) F (wM Y q' v) (outW Y o f) (kX6_hour eC) (List.append_assoc _ _ _).symm (List.append_assoc _ _ _) (by unfold mOK; decide +kernel) rfl rfl cd_yX6_hour ml_L_139 im_yX6_hour se_yX6_hour in_X6 rfl rfl ⟨Nat.le_of_ble_eq_true rfl, Nat.le_of_ble_eq_true rfl⟩ ⟨by show 74 + j ≤ 601024; omega, by show 1518 + 6 * j ≤ 7293034; omega⟩ rfl (Nat.le_of_ble_eq_true rfl) dL_law_963 ?_
  refine g_aload_n F dL_law_966 2 rfl rfl ?_
  refine g_callVi (n := 0) (q0 := 0) (As := []) (ws1 := wM Y q' v1 ++ (wC Y q u1 ++ outW Y o f)) F [] (wC Y q u1 ++ outW Y o f) (kX7_hour eM) rfl rfl (by unfold mOK; decide +kernel) rfl rfl cd_yX7_hour ml_L_142 im_yX7_hour se_yX7_hour in_X7 rfl rfl ⟨Nat.le_of_ble_eq_true rfl, Nat.le_of_ble_eq_true rfl⟩ ⟨by show 74 + j ≤ 601024; omega, by show 1518 + 6 * j ≤ 7293034; omega⟩ rfl (Nat.le_of_ble_eq_true rfl) dL_law_967 ?_
  refine g_icmp_eq (tgt := 1593) F dL_law_970 (by decide) (fun c1 => ?_) (fun c1 => absurd rfl c1)
  refine g_widen (k := 74 + j + 1) (n := 1518 + 6 * j + 6) (by omega) (by omega) ?_
  exact next u1 v1 _ eR
def Sx_port (Rel : St → St → Prop) : Prop := ∀ u v, Rel u v → ∃ r u1 v1, pX6_port u = some (r, u1) ∧ pX7_port v = some (r, v1) ∧ Rel u1 v1
set_option maxHeartbeats 4000000 in
set_option maxRecDepth 20000 in
theorem L_port {p : Program} {l : Launch} {e : Env} {s : State} {m : MethodId} {args : Array Value} {below : List Frame} {meth : Method} {c : Code} {D : va_G} {Y : Nat → ClassId} {A : Nat → Prop} {Q : State → Prop} (F : Fx p s m args c D Y A code 7 RL) {b L : Nat} {xs : Nat → Int32} (HX : va_X b L xs s s.heap ∧ b < s.heap.size ∧ ¬ A b) (hKX : KX A s) (hl9 : l.stackTraces = false) {j : Nat} (hj : 6 * j + 6 ≤ L) (hL : L ≤ 3072) {q q' : Nat → Nat} {o : Nat} {u v : St} {f : Nat → Int64} {Rel : St → St → Prop} (S : Sx_port Rel) (hR : Rel u v) (next : ∀ u1 v1 f1, Rel u1 v1 → GW p l e room_1 s m args below meth c D A 7 (74 + j + 1) (1518 + 6 * j + 6) Q (wM Y q' v1 ++ (wC Y q u1 ++ outW Y o f1)) 1593 [(4, .int (nI (6 * j))), (3, .ref o), (2, .ref (q' 0)), (1, .ref (q 0)), (0, .ref b)] []) : GW p l e room_1 s m args below meth c D A 7 (74 + j) (1518 + 6 * j) Q (wM Y q' v ++ (wC Y q u ++ outW Y o f)) 975 [(4, .int (nI (6 * j))), (3, .ref o), (2, .ref (q' 0)), (1, .ref (q 0)), (0, .ref b)] [] := by
  obtain ⟨r, u1, v1, eC, eM, eR⟩ := S u v hR
  refine g_aload_n F dL_law_975 3 rfl rfl ?_
  refine g_callVi (n := 0) (q0 := 0) (As := []) (ws1 := wM Y q' v ++ (wC Y q u1 ++ outW Y o f)) F (wM Y q' v) (outW Y o f) (kX6_port eC) (List.append_assoc _ _ _).symm (List.append_assoc _ _ _) (by unfold mOK; decide +kernel) rfl rfl cd_yX6_port ml_L_143 im_yX6_port se_yX6_port in_X6 rfl rfl ⟨Nat.le_of_ble_eq_true rfl, Nat.le_of_ble_eq_true rfl⟩ ⟨by show 74 + j ≤ 601024; omega, by show 1518 + 6 * j ≤ 7293034; omega⟩ rfl (Nat.le_of_ble_eq_true rfl) dL_law_976 ?_
  refine g_aload_n F dL_law_979 2 rfl rfl ?_
  refine g_callVi (n := 0) (q0 := 0) (As := []) (ws1 := wM Y q' v1 ++ (wC Y q u1 ++ outW Y o f)) F [] (wC Y q u1 ++ outW Y o f) (kX7_port eM) rfl rfl (by unfold mOK; decide +kernel) rfl rfl cd_yX7_port ml_L_146 im_yX7_port se_yX7_port in_X7 rfl rfl ⟨Nat.le_of_ble_eq_true rfl, Nat.le_of_ble_eq_true rfl⟩ ⟨by show 74 + j ≤ 601024; omega, by show 1518 + 6 * j ≤ 7293034; omega⟩ rfl (Nat.le_of_ble_eq_true rfl) dL_law_980 ?_
  refine g_icmp_eq (tgt := 1593) F dL_law_983 (by decide) (fun c1 => ?_) (fun c1 => absurd rfl c1)
  refine g_widen (k := 74 + j + 1) (n := 1518 + 6 * j + 6) (by omega) (by omega) ?_
  exact next u1 v1 _ eR
def Sx_cost (Rel : St → St → Prop) : Prop := ∀ u v, Rel u v → ∃ r u1 v1, pX6_cost u = some (r, u1) ∧ pX7_cost v = some (r, v1) ∧ Rel u1 v1
set_option maxHeartbeats 4000000 in
set_option maxRecDepth 20000 in
theorem L_cost {p : Program} {l : Launch} {e : Env} {s : State} {m : MethodId} {args : Array Value} {below : List Frame} {meth : Method} {c : Code} {D : va_G} {Y : Nat → ClassId} {A : Nat → Prop} {Q : State → Prop} (F : Fx p s m args c D Y A code 7 RL) {b L : Nat} {xs : Nat → Int32} (HX : va_X b L xs s s.heap ∧ b < s.heap.size ∧ ¬ A b) (hKX : KX A s) (hl9 : l.stackTraces = false) {j : Nat} (hj : 6 * j + 6 ≤ L) (hL : L ≤ 3072) {q q' : Nat → Nat} {o : Nat} {u v : St} {f : Nat → Int64} {Rel : St → St → Prop} (S : Sx_cost Rel) (hR : Rel u v) (next : ∀ u1 v1 f1, Rel u1 v1 → GW p l e room_1 s m args below meth c D A 7 (74 + j + 1) (1518 + 6 * j + 6) Q (wM Y q' v1 ++ (wC Y q u1 ++ outW Y o f1)) 1593 [(4, .int (nI (6 * j))), (3, .ref o), (2, .ref (q' 0)), (1, .ref (q 0)), (0, .ref b)] []) : GW p l e room_1 s m args below meth c D A 7 (74 + j) (1518 + 6 * j) Q (wM Y q' v ++ (wC Y q u ++ outW Y o f)) 988 [(4, .int (nI (6 * j))), (3, .ref o), (2, .ref (q' 0)), (1, .ref (q 0)), (0, .ref b)] [] := by
  obtain ⟨r, u1, v1, eC, eM, eR⟩ := S u v hR
  refine g_aload_n F dL_law_988 3 rfl rfl ?_
  refine g_callVi (n := 0) (q0 := 0) (As := []) (ws1 := wM Y q' v ++ (wC Y q u1 ++ outW Y o f)) F (wM Y q' v) (outW Y o f) (kX6_cost eC) (List.append_assoc _ _ _).symm (List.append_assoc _ _ _) (by unfold mOK; decide +kernel) rfl rfl cd_yX6_cost ml_L_147 im_yX6_cost se_yX6_cost in_X6 rfl rfl ⟨Nat.le_of_ble_eq_true rfl, Nat.le_of_ble_eq_true rfl⟩ ⟨by show 74 + j ≤ 601024; omega, by show 1518 + 6 * j ≤ 7293034; omega⟩ rfl (Nat.le_of_ble_eq_true rfl) dL_law_989 ?_
  refine g_aload_n F dL_law_992 2 rfl rfl ?_
  refine g_callVi (n := 0) (q0 := 0) (As := []) (ws1 := wM Y q' v1 ++ (wC Y q u1 ++ outW Y o f)) F [] (wC Y q u1 ++ outW Y o f) (kX7_cost eM) rfl rfl (by unfold mOK; decide +kernel) rfl rfl cd_yX7_cost ml_L_150 im_yX7_cost se_yX7_cost in_X7 rfl rfl ⟨Nat.le_of_ble_eq_true rfl, Nat.le_of_ble_eq_true rfl⟩ ⟨by show 74 + j ≤ 601024; omega, by show 1518 + 6 * j ≤ 7293034; omega⟩ rfl (Nat.le_of_ble_eq_true rfl) dL_law_993 ?_
  refine g_icmp_eq (tgt := 1593) F dL_law_996 (by decide) (fun c1 => ?_) (fun c1 => absurd rfl c1)
  refine g_widen (k := 74 + j + 1) (n := 1518 + 6 * j + 6) (by omega) (by omega) ?_
  exact next u1 v1 _ eR
def Sx_of (Rel : St → St → Prop) : Prop := ∀ u v, Rel u v → ∀ a1 a2 : Int32, ∃ k r u1 b v1, pX6_of a1 a2 u = some (k, r, u1) ∧ (k = 0 ∨ k = 1 ∨ k = 2) ∧ pX7_of a1 a2 v = some (b, v1) ∧ v1.2 0 = (if k = 0 then 0 else if k = 1 then 1 else if k = 2 then 2 else 0) ∧ (k = 0 → r = b) ∧ Rel u1 v1
set_option maxHeartbeats 4000000 in
set_option maxRecDepth 20000 in
theorem L_of {p : Program} {l : Launch} {e : Env} {s : State} {m : MethodId} {args : Array Value} {below : List Frame} {meth : Method} {c : Code} {D : va_G} {Y : Nat → ClassId} {A : Nat → Prop} {Q : State → Prop} (F : Fx p s m args c D Y A code 7 RL) {b L : Nat} {xs : Nat → Int32} (HX : va_X b L xs s s.heap ∧ b < s.heap.size ∧ ¬ A b) (hKX : KX A s) (hl9 : l.stackTraces = false) {j : Nat} (hj : 6 * j + 6 ≤ L) (hL : L ≤ 3072) {q q' : Nat → Nat} {o : Nat} {u v : St} {f : Nat → Int64} {Rel : St → St → Prop} (S : Sx_of Rel) (hR : Rel u v) (next : ∀ u1 v1 f1, Rel u1 v1 → GW p l e room_1 s m args below meth c D A 7 (74 + j + 1) (1518 + 6 * j + 6) Q (wM Y q' v1 ++ (wC Y q u1 ++ outW Y o f1)) 1593 [(4, .int (nI (6 * j))), (3, .ref o), (2, .ref (q' 0)), (1, .ref (q 0)), (0, .ref b)] []) : GW p l e room_1 s m args below meth c D A 7 (74 + j) (1518 + 6 * j) Q (wM Y q' v ++ (wC Y q u ++ outW Y o f)) 1001 [(4, .int (nI (6 * j))), (3, .ref o), (2, .ref (q' 0)), (1, .ref (q 0)), (0, .ref b)] [] := by
  obtain ⟨k, r, u1, b9, v1, eC, hk, eM, eT, eV, eR⟩ := S u v hR (xs (nI (6 * j) + nI 1).toNatClampNeg) (xs (nI (6 * j) + nI 2).toNatClampNeg)
  refine g_aload_n F dL_law_1001 3 rfl rfl ?_
  refine g_aload_n F dL_law_1002 4 rfl rfl ?_
  refine g_iload F dL_law_1003 0 rfl ?_
  refine g_iconst (v := nI 1) F dL_law_1005 (by decide) ?_
  refine g_iadd F dL_law_1006 ?_
  refine g_sld F HX (scr_in hj hL 1 (by decide)) dL_law_1007 ?_
  refine g_aload_n F dL_law_1008 4 rfl rfl ?_
  refine g_iload F dL_law_1009 0 rfl ?_
  refine g_iconst (v := nI 2) F dL_law_1011 (by decide) ?_
  refine g_iadd F dL_law_1012 ?_
  refine g_sld F HX (scr_in hj hL 2 (by decide)) dL_law_1013 ?_
  refine g_aload_n F dL_law_1014 1 rfl rfl ?_
  refine g_callW (n := 4) (ws1 := wM Y q' v ++ (wC Y q u1 ++ outW Y o (if k = 0 then vp_updL f 0 r.toInt64 else f))) F hKX (wM Y q' v) [] (wL_of eC hk hl9) (List.append_nil _).symm (List.append_nil _) (by unfold mOK; decide +kernel) rfl cw_yL_of ml_L_151 st_yL_of in_L ⟨Nat.le_of_ble_eq_true rfl, Nat.le_of_ble_eq_true rfl⟩ ⟨by show 74 + j + 1 ≤ 601024; omega, by show 1518 + 6 * j + 6 ≤ 7293034; omega⟩ rfl (Nat.le_of_ble_eq_true rfl) dL_law_1015 ?_
  refine g_istore (lv' := [(5, .int ((if k = 0 then 0 else if k = 1 then 1 else if k = 2 then 2 else 0))), (4, .int (nI (6 * j))), (3, .ref o), (2, .ref (q' 0)), (1, .ref (q 0)), (0, .ref b)]) F dL_law_1018 (by decide) rfl ?_
  refine g_aload_n F dL_law_1020 3 rfl rfl ?_
  refine g_aload_n F dL_law_1021 5 rfl rfl ?_
  refine g_iload F dL_law_1022 1 rfl ?_
  refine g_iconst (v := nI 1) F dL_law_1024 (by decide) ?_
  refine g_iadd F dL_law_1025 ?_
  refine g_sld F HX (scr_in hj hL 1 (by decide)) dL_law_1026 ?_
  refine g_aload_n F dL_law_1027 5 rfl rfl ?_
  refine g_iload F dL_law_1028 1 rfl ?_
  refine g_iconst (v := nI 2) F dL_law_1030 (by decide) ?_
  refine g_iadd F dL_law_1031 ?_
  refine g_sld F HX (scr_in hj hL 2 (by decide)) dL_law_1032 ?_
  refine g_callVi (n := 2) (q0 := 0) (As := [.int (xs (nI (6 * j) + nI 1).toNatClampNeg), .int (xs (nI (6 * j) + nI 2).toNatClampNeg)]) (ws1 := wM Y q' v1 ++ (wC Y q u1 ++ outW Y o (if k = 0 then vp_updL f 0 r.toInt64 else f))) F [] (wC Y q u1 ++ outW Y o (if k = 0 then vp_updL f 0 r.toInt64 else f)) (kX7_of eM) rfl rfl (by unfold mOK; decide +kernel) rfl rfl cd_yX7_of ml_L_153 im_yX7_of se_yX7_of in_X7 rfl rfl ⟨Nat.le_of_ble_eq_true rfl, Nat.le_of_ble_eq_true rfl⟩ ⟨by show 74 + j + 1 ≤ 601024; omega, by show 1518 + 6 * j + 6 ≤ 7293034; omega⟩ rfl (Nat.le_of_ble_eq_true rfl) dL_law_1033 ?_
  refine g_istore (lv' := [(6, .int (b9)), (5, .int ((if k = 0 then 0 else if k = 1 then 1 else if k = 2 then 2 else 0))), (4, .int (nI (6 * j))), (3, .ref o), (2, .ref (q' 0)), (1, .ref (q 0)), (0, .ref b)]) F dL_law_1036 (by decide) rfl ?_
  refine g_aload_n F dL_law_1038 4 rfl rfl ?_
  refine g_callVi (n := 0) (q0 := 0) (As := []) (ws1 := wM Y q' v1 ++ (wC Y q u1 ++ outW Y o (if k = 0 then vp_updL f 0 r.toInt64 else f))) F [] (wC Y q u1 ++ outW Y o (if k = 0 then vp_updL f 0 r.toInt64 else f)) (kX7_thrown (u := v1) (u1 := v1) (r := v1.2 0) rfl) rfl rfl (by unfold mOK; decide +kernel) rfl rfl cd_yX7_thrown ml_L_97 im_yX7_thrown se_yX7_thrown in_X7 rfl rfl ⟨Nat.le_of_ble_eq_true rfl, Nat.le_of_ble_eq_true rfl⟩ ⟨by show 74 + j + 1 ≤ 601024; omega, by show 1518 + 6 * j + 6 ≤ 7293034; omega⟩ rfl (Nat.le_of_ble_eq_true rfl) dL_law_1039 ?_
  refine g_iload F dL_law_1042 1 rfl ?_
  refine g_icmp_eq (tgt := 1049) F dL_law_1044 (by decide) (fun c1 => ?_) (fun c1 => absurd eT c1)
  refine g_iload F dL_law_1049 1 rfl ?_
  refine g_if_ne (tgt := 1066) F dL_law_1051 (by decide) (fun c7 => ?_) (fun c7 => ?_)
  · refine g_goto (tgt := 1593) F dL_law_1066 (by decide) ?_
    refine g_sub [2, 3, 4, 5, 6] rfl ?_
    exact next u1 v1 _ eR
  · have k0 : k = 0 := by
      rcases hk with rfl | rfl | rfl
      · rfl
      · exact absurd c7 (by decide)
      · exact absurd c7 (by decide)
    subst k0
    obtain rfl := eV rfl
    refine g_aload_n F dL_law_1054 3 rfl rfl ?_
    refine g_iconst (v := 0) F dL_law_1055 (by decide) ?_
    refine g_lald F 73 rfl (by unfold vp_in; decide) dL_law_1056 ?_
    refine g_iload F dL_law_1057 0 rfl ?_
    refine g_i2l F dL_law_1059 rfl ?_
    refine g_lcmp F dL_law_1060 ?_
    refine g_if_eq (tgt := 1066) F dL_law_1061 (by decide) (fun _ => ?_) (fun c8 => absurd (lgc_eq ?_) c8)
    · refine g_goto (tgt := 1593) F dL_law_1066 (by decide) ?_
      refine g_sub [2, 3, 4, 5, 6] rfl ?_
      exact next u1 v1 _ eR
    · rw [if_pos rfl]; rfl
def Sx_at (Rel : St → St → Prop) : Prop := ∀ u v, Rel u v → ∀ a1 : Int32, ∃ k r u1 b v1, pX6_at a1 u = some (k, r, u1) ∧ (k = 0 ∨ k = 1) ∧ pX7_at a1 v = some (b, v1) ∧ v1.2 0 = (if k = 0 then 0 else if k = 1 then 1 else 0) ∧ (k = 0 → r = b) ∧ Rel u1 v1
set_option maxHeartbeats 4000000 in
set_option maxRecDepth 20000 in
theorem L_at {p : Program} {l : Launch} {e : Env} {s : State} {m : MethodId} {args : Array Value} {below : List Frame} {meth : Method} {c : Code} {D : va_G} {Y : Nat → ClassId} {A : Nat → Prop} {Q : State → Prop} (F : Fx p s m args c D Y A code 7 RL) {b L : Nat} {xs : Nat → Int32} (HX : va_X b L xs s s.heap ∧ b < s.heap.size ∧ ¬ A b) (hKX : KX A s) (hl9 : l.stackTraces = false) {j : Nat} (hj : 6 * j + 6 ≤ L) (hL : L ≤ 3072) {q q' : Nat → Nat} {o : Nat} {u v : St} {f : Nat → Int64} {Rel : St → St → Prop} (S : Sx_at Rel) (hR : Rel u v) (next : ∀ u1 v1 f1, Rel u1 v1 → GW p l e room_1 s m args below meth c D A 7 (74 + j + 1) (1518 + 6 * j + 6) Q (wM Y q' v1 ++ (wC Y q u1 ++ outW Y o f1)) 1593 [(4, .int (nI (6 * j))), (3, .ref o), (2, .ref (q' 0)), (1, .ref (q 0)), (0, .ref b)] []) : GW p l e room_1 s m args below meth c D A 7 (74 + j) (1518 + 6 * j) Q (wM Y q' v ++ (wC Y q u ++ outW Y o f)) 1069 [(4, .int (nI (6 * j))), (3, .ref o), (2, .ref (q' 0)), (1, .ref (q 0)), (0, .ref b)] [] := by
  obtain ⟨k, r, u1, b9, v1, eC, hk, eM, eT, eV, eR⟩ := S u v hR (xs (nI (6 * j) + nI 1).toNatClampNeg)
  refine g_aload_n F dL_law_1069 3 rfl rfl ?_
  refine g_aload_n F dL_law_1070 4 rfl rfl ?_
  refine g_iload F dL_law_1071 0 rfl ?_
  refine g_iconst (v := nI 1) F dL_law_1073 (by decide) ?_
  refine g_iadd F dL_law_1074 ?_
  refine g_sld F HX (scr_in hj hL 1 (by decide)) dL_law_1075 ?_
  refine g_aload_n F dL_law_1076 1 rfl rfl ?_
  refine g_callW (n := 3) (ws1 := wM Y q' v ++ (wC Y q u1 ++ outW Y o (if k = 0 then vp_updL f 0 r.toInt64 else f))) F hKX (wM Y q' v) [] (wL_at eC hk hl9) (List.append_nil _).symm (List.append_nil _) (by unfold mOK; decide +kernel) rfl cw_yL_at ml_L_154 st_yL_at in_L ⟨Nat.le_of_ble_eq_true rfl, Nat.le_of_ble_eq_true rfl⟩ ⟨by show 74 + j + 1 ≤ 601024; omega, by show 1518 + 6 * j + 6 ≤ 7293034; omega⟩ rfl (Nat.le_of_ble_eq_true rfl) dL_law_1077 ?_
  refine g_istore (lv' := [(5, .int ((if k = 0 then 0 else if k = 1 then 1 else 0))), (4, .int (nI (6 * j))), (3, .ref o), (2, .ref (q' 0)), (1, .ref (q 0)), (0, .ref b)]) F dL_law_1080 (by decide) rfl ?_
  refine g_aload_n F dL_law_1082 3 rfl rfl ?_
  refine g_aload_n F dL_law_1083 5 rfl rfl ?_
  refine g_iload F dL_law_1084 1 rfl ?_
  refine g_iconst (v := nI 1) F dL_law_1086 (by decide) ?_
  refine g_iadd F dL_law_1087 ?_
  refine g_sld F HX (scr_in hj hL 1 (by decide)) dL_law_1088 ?_
  refine g_callVi (n := 1) (q0 := 0) (As := [.int (xs (nI (6 * j) + nI 1).toNatClampNeg)]) (ws1 := wM Y q' v1 ++ (wC Y q u1 ++ outW Y o (if k = 0 then vp_updL f 0 r.toInt64 else f))) F [] (wC Y q u1 ++ outW Y o (if k = 0 then vp_updL f 0 r.toInt64 else f)) (kX7_at eM) rfl rfl (by unfold mOK; decide +kernel) rfl rfl cd_yX7_at ml_L_156 im_yX7_at se_yX7_at in_X7 rfl rfl ⟨Nat.le_of_ble_eq_true rfl, Nat.le_of_ble_eq_true rfl⟩ ⟨by show 74 + j + 1 ≤ 601024; omega, by show 1518 + 6 * j + 6 ≤ 7293034; omega⟩ rfl (Nat.le_of_ble_eq_true rfl) dL_law_1089 ?_
  refine g_istore (lv' := [(6, .int (b9)), (5, .int ((if k = 0 then 0 else if k = 1 then 1 else 0))), (4, .int (nI (6 * j))), (3, .ref o), (2, .ref (q' 0)), (1, .ref (q 0)), (0, .ref b)]) F dL_law_1092 (by decide) rfl ?_
  refine g_aload_n F dL_law_1094 4 rfl rfl ?_
  refine g_callVi (n := 0) (q0 := 0) (As := []) (ws1 := wM Y q' v1 ++ (wC Y q u1 ++ outW Y o (if k = 0 then vp_updL f 0 r.toInt64 else f))) F [] (wC Y q u1 ++ outW Y o (if k = 0 then vp_updL f 0 r.toInt64 else f)) (kX7_thrown (u := v1) (u1 := v1) (r := v1.2 0) rfl) rfl rfl (by unfold mOK; decide +kernel) rfl rfl cd_yX7_thrown ml_L_97 im_yX7_thrown se_yX7_thrown in_X7 rfl rfl ⟨Nat.le_of_ble_eq_true rfl, Nat.le_of_ble_eq_true rfl⟩ ⟨by show 74 + j + 1 ≤ 601024; omega, by show 1518 + 6 * j + 6 ≤ 7293034; omega⟩ rfl (Nat.le_of_ble_eq_true rfl) dL_law_1095 ?_
  refine g_iload F dL_law_1098 1 rfl ?_
  refine g_icmp_eq (tgt := 1105) F dL_law_1100 (by decide) (fun c1 => ?_) (fun c1 => absurd eT c1)
  refine g_iload F dL_law_1105 1 rfl ?_
  refine g_if_ne (tgt := 1122) F dL_law_1107 (by decide) (fun c7 => ?_) (fun c7 => ?_)
  · refine g_goto (tgt := 1593) F dL_law_1122 (by decide) ?_
    refine g_sub [2, 3, 4, 5, 6] rfl ?_
    exact next u1 v1 _ eR
  · have k0 : k = 0 := by
      rcases hk with rfl | rfl
      · rfl
      · exact absurd c7 (by decide)
    subst k0
    obtain rfl := eV rfl
    refine g_aload_n F dL_law_1110 3 rfl rfl ?_
    refine g_iconst (v := 0) F dL_law_1111 (by decide) ?_
    refine g_lald F 73 rfl (by unfold vp_in; decide) dL_law_1112 ?_
    refine g_iload F dL_law_1113 0 rfl ?_
    refine g_i2l F dL_law_1115 rfl ?_
    refine g_lcmp F dL_law_1116 ?_
    refine g_if_eq (tgt := 1122) F dL_law_1117 (by decide) (fun _ => ?_) (fun c8 => absurd (lgc_eq ?_) c8)
    · refine g_goto (tgt := 1593) F dL_law_1122 (by decide) ?_
      refine g_sub [2, 3, 4, 5, 6] rfl ?_
      exact next u1 v1 _ eR
    · rw [if_pos rfl]; rfl
def Sx_inYard (Rel : St → St → Prop) : Prop := ∀ u v, Rel u v → ∀ a1 a2 : Int32, ∃ k r u1 b v1, pX6_inYard a1 a2 u = some (k, r, u1) ∧ (k = 0 ∨ k = 1) ∧ pX7_inYard a1 a2 v = some (b, v1) ∧ v1.2 0 = (if k = 0 then 0 else if k = 1 then 1 else 0) ∧ (k = 0 → r = b) ∧ Rel u1 v1
set_option maxHeartbeats 4000000 in
set_option maxRecDepth 20000 in
theorem L_inYard {p : Program} {l : Launch} {e : Env} {s : State} {m : MethodId} {args : Array Value} {below : List Frame} {meth : Method} {c : Code} {D : va_G} {Y : Nat → ClassId} {A : Nat → Prop} {Q : State → Prop} (F : Fx p s m args c D Y A code 7 RL) {b L : Nat} {xs : Nat → Int32} (HX : va_X b L xs s s.heap ∧ b < s.heap.size ∧ ¬ A b) (hKX : KX A s) (hl9 : l.stackTraces = false) {j : Nat} (hj : 6 * j + 6 ≤ L) (hL : L ≤ 3072) {q q' : Nat → Nat} {o : Nat} {u v : St} {f : Nat → Int64} {Rel : St → St → Prop} (S : Sx_inYard Rel) (hR : Rel u v) (next : ∀ u1 v1 f1, Rel u1 v1 → GW p l e room_1 s m args below meth c D A 7 (74 + j + 1) (1518 + 6 * j + 6) Q (wM Y q' v1 ++ (wC Y q u1 ++ outW Y o f1)) 1593 [(4, .int (nI (6 * j))), (3, .ref o), (2, .ref (q' 0)), (1, .ref (q 0)), (0, .ref b)] []) : GW p l e room_1 s m args below meth c D A 7 (74 + j) (1518 + 6 * j) Q (wM Y q' v ++ (wC Y q u ++ outW Y o f)) 1125 [(4, .int (nI (6 * j))), (3, .ref o), (2, .ref (q' 0)), (1, .ref (q 0)), (0, .ref b)] [] := by
  obtain ⟨k, r, u1, b9, v1, eC, hk, eM, eT, eV, eR⟩ := S u v hR (xs (nI (6 * j) + nI 1).toNatClampNeg) (xs (nI (6 * j) + nI 2).toNatClampNeg)
  refine g_aload_n F dL_law_1125 3 rfl rfl ?_
  refine g_aload_n F dL_law_1126 4 rfl rfl ?_
  refine g_iload F dL_law_1127 0 rfl ?_
  refine g_iconst (v := nI 1) F dL_law_1129 (by decide) ?_
  refine g_iadd F dL_law_1130 ?_
  refine g_sld F HX (scr_in hj hL 1 (by decide)) dL_law_1131 ?_
  refine g_aload_n F dL_law_1132 4 rfl rfl ?_
  refine g_iload F dL_law_1133 0 rfl ?_
  refine g_iconst (v := nI 2) F dL_law_1135 (by decide) ?_
  refine g_iadd F dL_law_1136 ?_
  refine g_sld F HX (scr_in hj hL 2 (by decide)) dL_law_1137 ?_
  refine g_aload_n F dL_law_1138 1 rfl rfl ?_
  refine g_callW (n := 4) (ws1 := wM Y q' v ++ (wC Y q u1 ++ outW Y o (if k = 0 then vp_updL f 0 r.toInt64 else f))) F hKX (wM Y q' v) [] (wL_inYard eC hk hl9) (List.append_nil _).symm (List.append_nil _) (by unfold mOK; decide +kernel) rfl cw_yL_inYard ml_L_157 st_yL_inYard in_L ⟨Nat.le_of_ble_eq_true rfl, Nat.le_of_ble_eq_true rfl⟩ ⟨by show 74 + j + 1 ≤ 601024; omega, by show 1518 + 6 * j + 6 ≤ 7293034; omega⟩ rfl (Nat.le_of_ble_eq_true rfl) dL_law_1139 ?_
  refine g_istore (lv' := [(5, .int ((if k = 0 then 0 else if k = 1 then 1 else 0))), (4, .int (nI (6 * j))), (3, .ref o), (2, .ref (q' 0)), (1, .ref (q 0)), (0, .ref b)]) F dL_law_1142 (by decide) rfl ?_
  refine g_aload_n F dL_law_1144 3 rfl rfl ?_
  refine g_aload_n F dL_law_1145 5 rfl rfl ?_
  refine g_iload F dL_law_1146 1 rfl ?_
  refine g_iconst (v := nI 1) F dL_law_1148 (by decide) ?_
  refine g_iadd F dL_law_1149 ?_
  refine g_sld F HX (scr_in hj hL 1 (by decide)) dL_law_1150 ?_
  refine g_aload_n F dL_law_1151 5 rfl rfl ?_
  refine g_iload F dL_law_1152 1 rfl ?_
  refine g_iconst (v := nI 2) F dL_law_1154 (by decide) ?_
  refine g_iadd F dL_law_1155 ?_
  refine g_sld F HX (scr_in hj hL 2 (by decide)) dL_law_1156 ?_
  refine g_callVi (n := 2) (q0 := 0) (As := [.int (xs (nI (6 * j) + nI 1).toNatClampNeg), .int (xs (nI (6 * j) + nI 2).toNatClampNeg)]) (ws1 := wM Y q' v1 ++ (wC Y q u1 ++ outW Y o (if k = 0 then vp_updL f 0 r.toInt64 else f))) F [] (wC Y q u1 ++ outW Y o (if k = 0 then vp_updL f 0 r.toInt64 else f)) (kX7_inYard eM) rfl rfl (by unfold mOK; decide +kernel) rfl rfl cd_yX7_inYard ml_L_159 im_yX7_inYard se_yX7_inYard in_X7 rfl rfl ⟨Nat.le_of_ble_eq_true rfl, Nat.le_of_ble_eq_true rfl⟩ ⟨by show 74 + j + 1 ≤ 601024; omega, by show 1518 + 6 * j + 6 ≤ 7293034; omega⟩ rfl (Nat.le_of_ble_eq_true rfl) dL_law_1157 ?_
  refine g_istore (lv' := [(6, .int (b9)), (5, .int ((if k = 0 then 0 else if k = 1 then 1 else 0))), (4, .int (nI (6 * j))), (3, .ref o), (2, .ref (q' 0)), (1, .ref (q 0)), (0, .ref b)]) F dL_law_1160 (by decide) rfl ?_
  refine g_aload_n F dL_law_1162 4 rfl rfl ?_
  refine g_callVi (n := 0) (q0 := 0) (As := []) (ws1 := wM Y q' v1 ++ (wC Y q u1 ++ outW Y o (if k = 0 then vp_updL f 0 r.toInt64 else f))) F [] (wC Y q u1 ++ outW Y o (if k = 0 then vp_updL f 0 r.toInt64 else f)) (kX7_thrown (u := v1) (u1 := v1) (r := v1.2 0) rfl) rfl rfl (by unfold mOK; decide +kernel) rfl rfl cd_yX7_thrown ml_L_97 im_yX7_thrown se_yX7_thrown in_X7 rfl rfl ⟨Nat.le_of_ble_eq_true rfl, Nat.le_of_ble_eq_true rfl⟩ ⟨by show 74 + j + 1 ≤ 601024; omega, by show 1518 + 6 * j + 6 ≤ 7293034; omega⟩ rfl (Nat.le_of_ble_eq_true rfl) dL_law_1163 ?_
  refine g_iload F dL_law_1166 1 rfl ?_
  refine g_icmp_eq (tgt := 1173) F dL_law_1168 (by decide) (fun c1 => ?_) (fun c1 => absurd eT c1)
  refine g_iload F dL_law_1173 1 rfl ?_
  refine g_if_ne (tgt := 1190) F dL_law_1175 (by decide) (fun c7 => ?_) (fun c7 => ?_)
  · refine g_goto (tgt := 1593) F dL_law_1190 (by decide) ?_
    refine g_sub [2, 3, 4, 5, 6] rfl ?_
    exact next u1 v1 _ eR
  · have k0 : k = 0 := by
      rcases hk with rfl | rfl
      · rfl
      · exact absurd c7 (by decide)
    subst k0
    obtain rfl := eV rfl
    refine g_aload_n F dL_law_1178 3 rfl rfl ?_
    refine g_iconst (v := 0) F dL_law_1179 (by decide) ?_
    refine g_lald F 73 rfl (by unfold vp_in; decide) dL_law_1180 ?_
    refine g_iload F dL_law_1181 0 rfl ?_
    refine g_i2l F dL_law_1183 rfl ?_
    refine g_lcmp F dL_law_1184 ?_
    refine g_if_eq (tgt := 1190) F dL_law_1185 (by decide) (fun _ => ?_) (fun c8 => absurd (lgc_eq ?_) c8)
    · refine g_goto (tgt := 1593) F dL_law_1190 (by decide) ?_
      refine g_sub [2, 3, 4, 5, 6] rfl ?_
      exact next u1 v1 _ eR
    · rw [if_pos rfl]; rfl
def Sx_hatch (Rel : St → St → Prop) : Prop := ∀ u v, Rel u v → ∀ a1 : Int32, ∃ k r u1 b v1, pX6_hatch a1 u = some (k, r, u1) ∧ (k = 0 ∨ k = 1) ∧ pX7_hatch a1 v = some (b, v1) ∧ v1.2 0 = (if k = 0 then 0 else if k = 1 then 1 else 0) ∧ (k = 0 → r = b) ∧ Rel u1 v1
set_option maxHeartbeats 4000000 in
set_option maxRecDepth 20000 in
theorem L_hatch {p : Program} {l : Launch} {e : Env} {s : State} {m : MethodId} {args : Array Value} {below : List Frame} {meth : Method} {c : Code} {D : va_G} {Y : Nat → ClassId} {A : Nat → Prop} {Q : State → Prop} (F : Fx p s m args c D Y A code 7 RL) {b L : Nat} {xs : Nat → Int32} (HX : va_X b L xs s s.heap ∧ b < s.heap.size ∧ ¬ A b) (hKX : KX A s) (hl9 : l.stackTraces = false) {j : Nat} (hj : 6 * j + 6 ≤ L) (hL : L ≤ 3072) {q q' : Nat → Nat} {o : Nat} {u v : St} {f : Nat → Int64} {Rel : St → St → Prop} (S : Sx_hatch Rel) (hR : Rel u v) (next : ∀ u1 v1 f1, Rel u1 v1 → GW p l e room_1 s m args below meth c D A 7 (74 + j + 1) (1518 + 6 * j + 6) Q (wM Y q' v1 ++ (wC Y q u1 ++ outW Y o f1)) 1593 [(4, .int (nI (6 * j))), (3, .ref o), (2, .ref (q' 0)), (1, .ref (q 0)), (0, .ref b)] []) : GW p l e room_1 s m args below meth c D A 7 (74 + j) (1518 + 6 * j) Q (wM Y q' v ++ (wC Y q u ++ outW Y o f)) 1193 [(4, .int (nI (6 * j))), (3, .ref o), (2, .ref (q' 0)), (1, .ref (q 0)), (0, .ref b)] [] := by
  obtain ⟨k, r, u1, b9, v1, eC, hk, eM, eT, eV, eR⟩ := S u v hR (xs (nI (6 * j) + nI 1).toNatClampNeg)
  refine g_aload_n F dL_law_1193 3 rfl rfl ?_
  refine g_aload_n F dL_law_1194 4 rfl rfl ?_
  refine g_iload F dL_law_1195 0 rfl ?_
  refine g_iconst (v := nI 1) F dL_law_1197 (by decide) ?_
  refine g_iadd F dL_law_1198 ?_
  refine g_sld F HX (scr_in hj hL 1 (by decide)) dL_law_1199 ?_
  refine g_aload_n F dL_law_1200 1 rfl rfl ?_
  refine g_callW (n := 3) (ws1 := wM Y q' v ++ (wC Y q u1 ++ outW Y o (if k = 0 then vp_updL f 0 r.toInt64 else f))) F hKX (wM Y q' v) [] (wL_hatch eC hk hl9) (List.append_nil _).symm (List.append_nil _) (by unfold mOK; decide +kernel) rfl cw_yL_hatch ml_L_160 st_yL_hatch in_L ⟨Nat.le_of_ble_eq_true rfl, Nat.le_of_ble_eq_true rfl⟩ ⟨by show 74 + j + 1 ≤ 601024; omega, by show 1518 + 6 * j + 6 ≤ 7293034; omega⟩ rfl (Nat.le_of_ble_eq_true rfl) dL_law_1201 ?_
  refine g_istore (lv' := [(5, .int ((if k = 0 then 0 else if k = 1 then 1 else 0))), (4, .int (nI (6 * j))), (3, .ref o), (2, .ref (q' 0)), (1, .ref (q 0)), (0, .ref b)]) F dL_law_1204 (by decide) rfl ?_
  refine g_aload_n F dL_law_1206 3 rfl rfl ?_
  refine g_aload_n F dL_law_1207 5 rfl rfl ?_
  refine g_iload F dL_law_1208 1 rfl ?_
  refine g_iconst (v := nI 1) F dL_law_1210 (by decide) ?_
  refine g_iadd F dL_law_1211 ?_
  refine g_sld F HX (scr_in hj hL 1 (by decide)) dL_law_1212 ?_
  refine g_callVi (n := 1) (q0 := 0) (As := [.int (xs (nI (6 * j) + nI 1).toNatClampNeg)]) (ws1 := wM Y q' v1 ++ (wC Y q u1 ++ outW Y o (if k = 0 then vp_updL f 0 r.toInt64 else f))) F [] (wC Y q u1 ++ outW Y o (if k = 0 then vp_updL f 0 r.toInt64 else f)) (kX7_hatch eM) rfl rfl (by unfold mOK; decide +kernel) rfl rfl cd_yX7_hatch ml_L_162 im_yX7_hatch se_yX7_hatch in_X7 rfl rfl ⟨Nat.le_of_ble_eq_true rfl, Nat.le_of_ble_eq_true rfl⟩ ⟨by show 74 + j + 1 ≤ 601024; omega, by show 1518 + 6 * j + 6 ≤ 7293034; omega⟩ rfl (Nat.le_of_ble_eq_true rfl) dL_law_1213 ?_
  refine g_istore (lv' := [(6, .int (b9)), (5, .int ((if k = 0 then 0 else if k = 1 then 1 else 0))), (4, .int (nI (6 * j))), (3, .ref o), (2, .ref (q' 0)), (1, .ref (q 0)), (0, .ref b)]) F dL_law_1216 (by decide) rfl ?_
  refine g_aload_n F dL_law_1218 4 rfl rfl ?_
  refine g_callVi (n := 0) (q0 := 0) (As := []) (ws1 := wM Y q' v1 ++ (wC Y q u1 ++ outW Y o (if k = 0 then vp_updL f 0 r.toInt64 else f))) F [] (wC Y q u1 ++ outW Y o (if k = 0 then vp_updL f 0 r.toInt64 else f)) (kX7_thrown (u := v1) (u1 := v1) (r := v1.2 0) rfl) rfl rfl (by unfold mOK; decide +kernel) rfl rfl cd_yX7_thrown ml_L_97 im_yX7_thrown se_yX7_thrown in_X7 rfl rfl ⟨Nat.le_of_ble_eq_true rfl, Nat.le_of_ble_eq_true rfl⟩ ⟨by show 74 + j + 1 ≤ 601024; omega, by show 1518 + 6 * j + 6 ≤ 7293034; omega⟩ rfl (Nat.le_of_ble_eq_true rfl) dL_law_1219 ?_
  refine g_iload F dL_law_1222 1 rfl ?_
  refine g_icmp_eq (tgt := 1229) F dL_law_1224 (by decide) (fun c1 => ?_) (fun c1 => absurd eT c1)
  refine g_iload F dL_law_1229 1 rfl ?_
  refine g_if_ne (tgt := 1246) F dL_law_1231 (by decide) (fun c7 => ?_) (fun c7 => ?_)
  · refine g_goto (tgt := 1593) F dL_law_1246 (by decide) ?_
    refine g_sub [2, 3, 4, 5, 6] rfl ?_
    exact next u1 v1 _ eR
  · have k0 : k = 0 := by
      rcases hk with rfl | rfl
      · rfl
      · exact absurd c7 (by decide)
    subst k0
    obtain rfl := eV rfl
    refine g_aload_n F dL_law_1234 3 rfl rfl ?_
    refine g_iconst (v := 0) F dL_law_1235 (by decide) ?_
    refine g_lald F 73 rfl (by unfold vp_in; decide) dL_law_1236 ?_
    refine g_iload F dL_law_1237 0 rfl ?_
    refine g_i2l F dL_law_1239 rfl ?_
    refine g_lcmp F dL_law_1240 ?_
    refine g_if_eq (tgt := 1246) F dL_law_1241 (by decide) (fun _ => ?_) (fun c8 => absurd (lgc_eq ?_) c8)
    · refine g_goto (tgt := 1593) F dL_law_1246 (by decide) ?_
      refine g_sub [2, 3, 4, 5, 6] rfl ?_
      exact next u1 v1 _ eR
    · rw [if_pos rfl]; rfl
def Sx_moment (Rel : St → St → Prop) : Prop := ∀ u v, Rel u v → ∀ a1 : Int32, ∃ k r u1 b v1, pX6_moment a1 u = some (k, r, u1) ∧ (k = 0 ∨ k = 2) ∧ pX7_moment a1 v = some (b, v1) ∧ v1.2 0 = (if k = 0 then 0 else if k = 2 then 1 else 0) ∧ (k = 0 → r = b) ∧ Rel u1 v1
set_option maxHeartbeats 4000000 in
set_option maxRecDepth 20000 in
theorem L_moment {p : Program} {l : Launch} {e : Env} {s : State} {m : MethodId} {args : Array Value} {below : List Frame} {meth : Method} {c : Code} {D : va_G} {Y : Nat → ClassId} {A : Nat → Prop} {Q : State → Prop} (F : Fx p s m args c D Y A code 7 RL) {b L : Nat} {xs : Nat → Int32} (HX : va_X b L xs s s.heap ∧ b < s.heap.size ∧ ¬ A b) (hKX : KX A s) (hl9 : l.stackTraces = false) {j : Nat} (hj : 6 * j + 6 ≤ L) (hL : L ≤ 3072) {q q' : Nat → Nat} {o : Nat} {u v : St} {f : Nat → Int64} {Rel : St → St → Prop} (S : Sx_moment Rel) (hR : Rel u v) (next : ∀ u1 v1 f1, Rel u1 v1 → GW p l e room_1 s m args below meth c D A 7 (74 + j + 1) (1518 + 6 * j + 6) Q (wM Y q' v1 ++ (wC Y q u1 ++ outW Y o f1)) 1593 [(4, .int (nI (6 * j))), (3, .ref o), (2, .ref (q' 0)), (1, .ref (q 0)), (0, .ref b)] []) : GW p l e room_1 s m args below meth c D A 7 (74 + j) (1518 + 6 * j) Q (wM Y q' v ++ (wC Y q u ++ outW Y o f)) 1249 [(4, .int (nI (6 * j))), (3, .ref o), (2, .ref (q' 0)), (1, .ref (q 0)), (0, .ref b)] [] := by
  obtain ⟨k, r, u1, b9, v1, eC, hk, eM, eT, eV, eR⟩ := S u v hR (xs (nI (6 * j) + nI 1).toNatClampNeg)
  refine g_aload_n F dL_law_1249 3 rfl rfl ?_
  refine g_aload_n F dL_law_1250 4 rfl rfl ?_
  refine g_iload F dL_law_1251 0 rfl ?_
  refine g_iconst (v := nI 1) F dL_law_1253 (by decide) ?_
  refine g_iadd F dL_law_1254 ?_
  refine g_sld F HX (scr_in hj hL 1 (by decide)) dL_law_1255 ?_
  refine g_aload_n F dL_law_1256 1 rfl rfl ?_
  refine g_callW (n := 3) (ws1 := wM Y q' v ++ (wC Y q u1 ++ outW Y o (if k = 0 then vp_updL f 0 r.toInt64 else f))) F hKX (wM Y q' v) [] (wL_moment eC hk hl9) (List.append_nil _).symm (List.append_nil _) (by unfold mOK; decide +kernel) rfl cw_yL_moment ml_L_163 st_yL_moment in_L ⟨Nat.le_of_ble_eq_true rfl, Nat.le_of_ble_eq_true rfl⟩ ⟨by show 74 + j + 1 ≤ 601024; omega, by show 1518 + 6 * j + 6 ≤ 7293034; omega⟩ rfl (Nat.le_of_ble_eq_true rfl) dL_law_1257 ?_
  refine g_istore (lv' := [(5, .int ((if k = 0 then 0 else if k = 2 then 1 else 0))), (4, .int (nI (6 * j))), (3, .ref o), (2, .ref (q' 0)), (1, .ref (q 0)), (0, .ref b)]) F dL_law_1260 (by decide) rfl ?_
  refine g_aload_n F dL_law_1262 3 rfl rfl ?_
  refine g_aload_n F dL_law_1263 5 rfl rfl ?_
  refine g_iload F dL_law_1264 1 rfl ?_
  refine g_iconst (v := nI 1) F dL_law_1266 (by decide) ?_
  refine g_iadd F dL_law_1267 ?_
  refine g_sld F HX (scr_in hj hL 1 (by decide)) dL_law_1268 ?_
  refine g_callVi (n := 1) (q0 := 0) (As := [.int (xs (nI (6 * j) + nI 1).toNatClampNeg)]) (ws1 := wM Y q' v1 ++ (wC Y q u1 ++ outW Y o (if k = 0 then vp_updL f 0 r.toInt64 else f))) F [] (wC Y q u1 ++ outW Y o (if k = 0 then vp_updL f 0 r.toInt64 else f)) (kX7_moment eM) rfl rfl (by unfold mOK; decide +kernel) rfl rfl cd_yX7_moment ml_L_165 im_yX7_moment se_yX7_moment in_X7 rfl rfl ⟨Nat.le_of_ble_eq_true rfl, Nat.le_of_ble_eq_true rfl⟩ ⟨by show 74 + j + 1 ≤ 601024; omega, by show 1518 + 6 * j + 6 ≤ 7293034; omega⟩ rfl (Nat.le_of_ble_eq_true rfl) dL_law_1269 ?_
  refine g_istore (lv' := [(6, .int (b9)), (5, .int ((if k = 0 then 0 else if k = 2 then 1 else 0))), (4, .int (nI (6 * j))), (3, .ref o), (2, .ref (q' 0)), (1, .ref (q 0)), (0, .ref b)]) F dL_law_1272 (by decide) rfl ?_
  refine g_aload_n F dL_law_1274 4 rfl rfl ?_
  refine g_callVi (n := 0) (q0 := 0) (As := []) (ws1 := wM Y q' v1 ++ (wC Y q u1 ++ outW Y o (if k = 0 then vp_updL f 0 r.toInt64 else f))) F [] (wC Y q u1 ++ outW Y o (if k = 0 then vp_updL f 0 r.toInt64 else f)) (kX7_thrown (u := v1) (u1 := v1) (r := v1.2 0) rfl) rfl rfl (by unfold mOK; decide +kernel) rfl rfl cd_yX7_thrown ml_L_97 im_yX7_thrown se_yX7_thrown in_X7 rfl rfl ⟨Nat.le_of_ble_eq_true rfl, Nat.le_of_ble_eq_true rfl⟩ ⟨by show 74 + j + 1 ≤ 601024; omega, by show 1518 + 6 * j + 6 ≤ 7293034; omega⟩ rfl (Nat.le_of_ble_eq_true rfl) dL_law_1275 ?_
  refine g_iload F dL_law_1278 1 rfl ?_
  refine g_icmp_eq (tgt := 1285) F dL_law_1280 (by decide) (fun c1 => ?_) (fun c1 => absurd eT c1)
  refine g_iload F dL_law_1285 1 rfl ?_
  refine g_if_ne (tgt := 1302) F dL_law_1287 (by decide) (fun c7 => ?_) (fun c7 => ?_)
  · refine g_goto (tgt := 1593) F dL_law_1302 (by decide) ?_
    refine g_sub [2, 3, 4, 5, 6] rfl ?_
    exact next u1 v1 _ eR
  · have k0 : k = 0 := by
      rcases hk with rfl | rfl
      · rfl
      · exact absurd c7 (by decide)
    subst k0
    obtain rfl := eV rfl
    refine g_aload_n F dL_law_1290 3 rfl rfl ?_
    refine g_iconst (v := 0) F dL_law_1291 (by decide) ?_
    refine g_lald F 73 rfl (by unfold vp_in; decide) dL_law_1292 ?_
    refine g_iload F dL_law_1293 0 rfl ?_
    refine g_i2l F dL_law_1295 rfl ?_
    refine g_lcmp F dL_law_1296 ?_
    refine g_if_eq (tgt := 1302) F dL_law_1297 (by decide) (fun _ => ?_) (fun c8 => absurd (lgc_eq ?_) c8)
    · refine g_goto (tgt := 1593) F dL_law_1302 (by decide) ?_
      refine g_sub [2, 3, 4, 5, 6] rfl ?_
      exact next u1 v1 _ eR
    · rw [if_pos rfl]; rfl
def Sx_momentAnew (Rel : St → St → Prop) : Prop := ∀ u v, Rel u v → ∀ a1 : Int32, ∃ k r u1 b v1, pX6_momentAnew a1 u = some (k, r, u1) ∧ (k = 0 ∨ k = 2) ∧ pX7_momentAnew a1 v = some (b, v1) ∧ v1.2 0 = (if k = 0 then 0 else if k = 2 then 1 else 0) ∧ (k = 0 → r = b) ∧ Rel u1 v1
set_option maxHeartbeats 4000000 in
set_option maxRecDepth 20000 in
theorem L_momentAnew {p : Program} {l : Launch} {e : Env} {s : State} {m : MethodId} {args : Array Value} {below : List Frame} {meth : Method} {c : Code} {D : va_G} {Y : Nat → ClassId} {A : Nat → Prop} {Q : State → Prop} (F : Fx p s m args c D Y A code 7 RL) {b L : Nat} {xs : Nat → Int32} (HX : va_X b L xs s s.heap ∧ b < s.heap.size ∧ ¬ A b) (hKX : KX A s) (hl9 : l.stackTraces = false) {j : Nat} (hj : 6 * j + 6 ≤ L) (hL : L ≤ 3072) {q q' : Nat → Nat} {o : Nat} {u v : St} {f : Nat → Int64} {Rel : St → St → Prop} (S : Sx_momentAnew Rel) (hR : Rel u v) (next : ∀ u1 v1 f1, Rel u1 v1 → GW p l e room_1 s m args below meth c D A 7 (74 + j + 1) (1518 + 6 * j + 6) Q (wM Y q' v1 ++ (wC Y q u1 ++ outW Y o f1)) 1593 [(4, .int (nI (6 * j))), (3, .ref o), (2, .ref (q' 0)), (1, .ref (q 0)), (0, .ref b)] []) : GW p l e room_1 s m args below meth c D A 7 (74 + j) (1518 + 6 * j) Q (wM Y q' v ++ (wC Y q u ++ outW Y o f)) 1305 [(4, .int (nI (6 * j))), (3, .ref o), (2, .ref (q' 0)), (1, .ref (q 0)), (0, .ref b)] [] := by
  obtain ⟨k, r, u1, b9, v1, eC, hk, eM, eT, eV, eR⟩ := S u v hR (xs (nI (6 * j) + nI 1).toNatClampNeg)
  refine g_aload_n F dL_law_1305 3 rfl rfl ?_
  refine g_aload_n F dL_law_1306 4 rfl rfl ?_
  refine g_iload F dL_law_1307 0 rfl ?_
  refine g_iconst (v := nI 1) F dL_law_1309 (by decide) ?_
  refine g_iadd F dL_law_1310 ?_
  refine g_sld F HX (scr_in hj hL 1 (by decide)) dL_law_1311 ?_
  refine g_aload_n F dL_law_1312 1 rfl rfl ?_
  refine g_callW (n := 3) (ws1 := wM Y q' v ++ (wC Y q u1 ++ outW Y o (if k = 0 then vp_updL f 0 r.toInt64 else f))) F hKX (wM Y q' v) [] (wL_momentAnew eC hk hl9) (List.append_nil _).symm (List.append_nil _) (by unfold mOK; decide +kernel) rfl cw_yL_momentAnew ml_L_166 st_yL_momentAnew in_L ⟨Nat.le_of_ble_eq_true rfl, Nat.le_of_ble_eq_true rfl⟩ ⟨by show 74 + j + 1 ≤ 601024; omega, by show 1518 + 6 * j + 6 ≤ 7293034; omega⟩ rfl (Nat.le_of_ble_eq_true rfl) dL_law_1313 ?_
  refine g_istore (lv' := [(5, .int ((if k = 0 then 0 else if k = 2 then 1 else 0))), (4, .int (nI (6 * j))), (3, .ref o), (2, .ref (q' 0)), (1, .ref (q 0)), (0, .ref b)]) F dL_law_1316 (by decide) rfl ?_
  refine g_aload_n F dL_law_1318 3 rfl rfl ?_
  refine g_aload_n F dL_law_1319 5 rfl rfl ?_
  refine g_iload F dL_law_1320 1 rfl ?_
  refine g_iconst (v := nI 1) F dL_law_1322 (by decide) ?_
  refine g_iadd F dL_law_1323 ?_
  refine g_sld F HX (scr_in hj hL 1 (by decide)) dL_law_1324 ?_
  refine g_callVi (n := 1) (q0 := 0) (As := [.int (xs (nI (6 * j) + nI 1).toNatClampNeg)]) (ws1 := wM Y q' v1 ++ (wC Y q u1 ++ outW Y o (if k = 0 then vp_updL f 0 r.toInt64 else f))) F [] (wC Y q u1 ++ outW Y o (if k = 0 then vp_updL f 0 r.toInt64 else f)) (kX7_momentAnew eM) rfl rfl (by unfold mOK; decide +kernel) rfl rfl cd_yX7_momentAnew ml_L_168 im_yX7_momentAnew se_yX7_momentAnew in_X7 rfl rfl ⟨Nat.le_of_ble_eq_true rfl, Nat.le_of_ble_eq_true rfl⟩ ⟨by show 74 + j + 1 ≤ 601024; omega, by show 1518 + 6 * j + 6 ≤ 7293034; omega⟩ rfl (Nat.le_of_ble_eq_true rfl) dL_law_1325 ?_
  refine g_istore (lv' := [(6, .int (b9)), (5, .int ((if k = 0 then 0 else if k = 2 then 1 else 0))), (4, .int (nI (6 * j))), (3, .ref o), (2, .ref (q' 0)), (1, .ref (q 0)), (0, .ref b)]) F dL_law_1328 (by decide) rfl ?_
  refine g_aload_n F dL_law_1330 4 rfl rfl ?_
  refine g_callVi (n := 0) (q0 := 0) (As := []) (ws1 := wM Y q' v1 ++ (wC Y q u1 ++ outW Y o (if k = 0 then vp_updL f 0 r.toInt64 else f))) F [] (wC Y q u1 ++ outW Y o (if k = 0 then vp_updL f 0 r.toInt64 else f)) (kX7_thrown (u := v1) (u1 := v1) (r := v1.2 0) rfl) rfl rfl (by unfold mOK; decide +kernel) rfl rfl cd_yX7_thrown ml_L_97 im_yX7_thrown se_yX7_thrown in_X7 rfl rfl ⟨Nat.le_of_ble_eq_true rfl, Nat.le_of_ble_eq_true rfl⟩ ⟨by show 74 + j + 1 ≤ 601024; omega, by show 1518 + 6 * j + 6 ≤ 7293034; omega⟩ rfl (Nat.le_of_ble_eq_true rfl) dL_law_1331 ?_
  refine g_iload F dL_law_1334 1 rfl ?_
  refine g_icmp_eq (tgt := 1341) F dL_law_1336 (by decide) (fun c1 => ?_) (fun c1 => absurd eT c1)
  refine g_iload F dL_law_1341 1 rfl ?_
  refine g_if_ne (tgt := 1358) F dL_law_1343 (by decide) (fun c7 => ?_) (fun c7 => ?_)
  · refine g_goto (tgt := 1593) F dL_law_1358 (by decide) ?_
    refine g_sub [2, 3, 4, 5, 6] rfl ?_
    exact next u1 v1 _ eR
  · have k0 : k = 0 := by
      rcases hk with rfl | rfl
      · rfl
      · exact absurd c7 (by decide)
    subst k0
    obtain rfl := eV rfl
    refine g_aload_n F dL_law_1346 3 rfl rfl ?_
    refine g_iconst (v := 0) F dL_law_1347 (by decide) ?_
    refine g_lald F 73 rfl (by unfold vp_in; decide) dL_law_1348 ?_
    refine g_iload F dL_law_1349 0 rfl ?_
    refine g_i2l F dL_law_1351 rfl ?_
    refine g_lcmp F dL_law_1352 ?_
    refine g_if_eq (tgt := 1358) F dL_law_1353 (by decide) (fun _ => ?_) (fun c8 => absurd (lgc_eq ?_) c8)
    · refine g_goto (tgt := 1593) F dL_law_1358 (by decide) ?_
      refine g_sub [2, 3, 4, 5, 6] rfl ?_
      exact next u1 v1 _ eR
    · rw [if_pos rfl]; rfl
def Sx_bars (Rel : St → St → Prop) : Prop := ∀ u v, Rel u v → ∃ r u1 v1, pX6_bars u = some (r, u1) ∧ pX7_bars v = some (r, v1) ∧ Rel u1 v1
set_option maxHeartbeats 4000000 in
set_option maxRecDepth 20000 in
theorem L_bars {p : Program} {l : Launch} {e : Env} {s : State} {m : MethodId} {args : Array Value} {below : List Frame} {meth : Method} {c : Code} {D : va_G} {Y : Nat → ClassId} {A : Nat → Prop} {Q : State → Prop} (F : Fx p s m args c D Y A code 7 RL) {b L : Nat} {xs : Nat → Int32} (HX : va_X b L xs s s.heap ∧ b < s.heap.size ∧ ¬ A b) (hKX : KX A s) (hl9 : l.stackTraces = false) {j : Nat} (hj : 6 * j + 6 ≤ L) (hL : L ≤ 3072) {q q' : Nat → Nat} {o : Nat} {u v : St} {f : Nat → Int64} {Rel : St → St → Prop} (S : Sx_bars Rel) (hR : Rel u v) (next : ∀ u1 v1 f1, Rel u1 v1 → GW p l e room_1 s m args below meth c D A 7 (74 + j + 1) (1518 + 6 * j + 6) Q (wM Y q' v1 ++ (wC Y q u1 ++ outW Y o f1)) 1593 [(4, .int (nI (6 * j))), (3, .ref o), (2, .ref (q' 0)), (1, .ref (q 0)), (0, .ref b)] []) : GW p l e room_1 s m args below meth c D A 7 (74 + j) (1518 + 6 * j) Q (wM Y q' v ++ (wC Y q u ++ outW Y o f)) 1361 [(4, .int (nI (6 * j))), (3, .ref o), (2, .ref (q' 0)), (1, .ref (q 0)), (0, .ref b)] [] := by
  obtain ⟨r, u1, v1, eC, eM, eR⟩ := S u v hR
  refine g_aload_n F dL_law_1361 3 rfl rfl ?_
  refine g_callVi (n := 0) (q0 := 0) (As := []) (ws1 := wM Y q' v ++ (wC Y q u1 ++ outW Y o f)) F (wM Y q' v) (outW Y o f) (kX6_bars eC) (List.append_assoc _ _ _).symm (List.append_assoc _ _ _) (by unfold mOK; decide +kernel) rfl rfl cd_yX6_bars ml_L_169 im_yX6_bars se_yX6_bars in_X6 rfl rfl ⟨Nat.le_of_ble_eq_true rfl, Nat.le_of_ble_eq_true rfl⟩ ⟨by show 74 + j ≤ 601024; omega, by show 1518 + 6 * j ≤ 7293034; omega⟩ rfl (Nat.le_of_ble_eq_true rfl) dL_law_1362 ?_
  refine g_aload_n F dL_law_1365 2 rfl rfl ?_
  refine g_callVi (n := 0) (q0 := 0) (As := []) (ws1 := wM Y q' v1 ++ (wC Y q u1 ++ outW Y o f)) F [] (wC Y q u1 ++ outW Y o f) (kX7_bars eM) rfl rfl (by unfold mOK; decide +kernel) rfl rfl cd_yX7_bars ml_L_172 im_yX7_bars se_yX7_bars in_X7 rfl rfl ⟨Nat.le_of_ble_eq_true rfl, Nat.le_of_ble_eq_true rfl⟩ ⟨by show 74 + j ≤ 601024; omega, by show 1518 + 6 * j ≤ 7293034; omega⟩ rfl (Nat.le_of_ble_eq_true rfl) dL_law_1366 ?_
  refine g_icmp_eq (tgt := 1593) F dL_law_1369 (by decide) (fun c1 => ?_) (fun c1 => absurd rfl c1)
  refine g_widen (k := 74 + j + 1) (n := 1518 + 6 * j + 6) (by omega) (by omega) ?_
  exact next u1 v1 _ eR
def Sx_dig (Rel : St → St → Prop) : Prop := ∀ u v, Rel u v → ∀ a1 : Int32, ∃ k r u1 b v1, pX6_dig a1 u = some (k, r, u1) ∧ (k = 0 ∨ k = 1 ∨ k = 3) ∧ pX7_dig a1 v = some (b, v1) ∧ v1.2 0 = (if k = 0 then 0 else if k = 1 then 1 else if k = 3 then 2 else 0) ∧ (k = 0 → r = b) ∧ Rel u1 v1
set_option maxHeartbeats 4000000 in
set_option maxRecDepth 20000 in
theorem L_dig {p : Program} {l : Launch} {e : Env} {s : State} {m : MethodId} {args : Array Value} {below : List Frame} {meth : Method} {c : Code} {D : va_G} {Y : Nat → ClassId} {A : Nat → Prop} {Q : State → Prop} (F : Fx p s m args c D Y A code 7 RL) {b L : Nat} {xs : Nat → Int32} (HX : va_X b L xs s s.heap ∧ b < s.heap.size ∧ ¬ A b) (hKX : KX A s) (hl9 : l.stackTraces = false) {j : Nat} (hj : 6 * j + 6 ≤ L) (hL : L ≤ 3072) {q q' : Nat → Nat} {o : Nat} {u v : St} {f : Nat → Int64} {Rel : St → St → Prop} (S : Sx_dig Rel) (hR : Rel u v) (next : ∀ u1 v1 f1, Rel u1 v1 → GW p l e room_1 s m args below meth c D A 7 (74 + j + 1) (1518 + 6 * j + 6) Q (wM Y q' v1 ++ (wC Y q u1 ++ outW Y o f1)) 1593 [(4, .int (nI (6 * j))), (3, .ref o), (2, .ref (q' 0)), (1, .ref (q 0)), (0, .ref b)] []) : GW p l e room_1 s m args below meth c D A 7 (74 + j) (1518 + 6 * j) Q (wM Y q' v ++ (wC Y q u ++ outW Y o f)) 1374 [(4, .int (nI (6 * j))), (3, .ref o), (2, .ref (q' 0)), (1, .ref (q 0)), (0, .ref b)] [] := by
  obtain ⟨k, r, u1, b9, v1, eC, hk, eM, eT, eV, eR⟩ := S u v hR (xs (nI (6 * j) + nI 1).toNatClampNeg)
  refine g_aload_n F dL_law_1374 3 rfl rfl ?_
  refine g_aload_n F dL_law_1375 4 rfl rfl ?_
  refine g_iload F dL_law_1376 0 rfl ?_
  refine g_iconst (v := nI 1) F dL_law_1378 (by decide) ?_
  refine g_iadd F dL_law_1379 ?_
  refine g_sld F HX (scr_in hj hL 1 (by decide)) dL_law_1380 ?_
  refine g_aload_n F dL_law_1381 1 rfl rfl ?_
  refine g_callW (n := 3) (ws1 := wM Y q' v ++ (wC Y q u1 ++ outW Y o (if k = 0 then vp_updL f 0 r.toInt64 else f))) F hKX (wM Y q' v) [] (wL_dig eC hk hl9) (List.append_nil _).symm (List.append_nil _) (by unfold mOK; decide +kernel) rfl cw_yL_dig ml_L_173 st_yL_dig in_L ⟨Nat.le_of_ble_eq_true rfl, Nat.le_of_ble_eq_true rfl⟩ ⟨by show 74 + j + 1 ≤ 601024; omega, by show 1518 + 6 * j + 6 ≤ 7293034; omega⟩ rfl (Nat.le_of_ble_eq_true rfl) dL_law_1382 ?_
  refine g_istore (lv' := [(5, .int ((if k = 0 then 0 else if k = 1 then 1 else if k = 3 then 2 else 0))), (4, .int (nI (6 * j))), (3, .ref o), (2, .ref (q' 0)), (1, .ref (q 0)), (0, .ref b)]) F dL_law_1385 (by decide) rfl ?_
  refine g_aload_n F dL_law_1387 3 rfl rfl ?_
  refine g_aload_n F dL_law_1388 5 rfl rfl ?_
  refine g_iload F dL_law_1389 1 rfl ?_
  refine g_iconst (v := nI 1) F dL_law_1391 (by decide) ?_
  refine g_iadd F dL_law_1392 ?_
  refine g_sld F HX (scr_in hj hL 1 (by decide)) dL_law_1393 ?_
  refine g_callVi (n := 1) (q0 := 0) (As := [.int (xs (nI (6 * j) + nI 1).toNatClampNeg)]) (ws1 := wM Y q' v1 ++ (wC Y q u1 ++ outW Y o (if k = 0 then vp_updL f 0 r.toInt64 else f))) F [] (wC Y q u1 ++ outW Y o (if k = 0 then vp_updL f 0 r.toInt64 else f)) (kX7_dig eM) rfl rfl (by unfold mOK; decide +kernel) rfl rfl cd_yX7_dig ml_L_175 im_yX7_dig se_yX7_dig in_X7 rfl rfl ⟨Nat.le_of_ble_eq_true rfl, Nat.le_of_ble_eq_true rfl⟩ ⟨by show 74 + j + 1 ≤ 601024; omega, by show 1518 + 6 * j + 6 ≤ 7293034; omega⟩ rfl (Nat.le_of_ble_eq_true rfl) dL_law_1394 ?_
  refine g_istore (lv' := [(6, .int (b9)), (5, .int ((if k = 0 then 0 else if k = 1 then 1 else if k = 3 then 2 else 0))), (4, .int (nI (6 * j))), (3, .ref o), (2, .ref (q' 0)), (1, .ref (q 0)), (0, .ref b)]) F dL_law_1397 (by decide) rfl ?_
  refine g_aload_n F dL_law_1399 4 rfl rfl ?_
  refine g_callVi (n := 0) (q0 := 0) (As := []) (ws1 := wM Y q' v1 ++ (wC Y q u1 ++ outW Y o (if k = 0 then vp_updL f 0 r.toInt64 else f))) F [] (wC Y q u1 ++ outW Y o (if k = 0 then vp_updL f 0 r.toInt64 else f)) (kX7_thrown (u := v1) (u1 := v1) (r := v1.2 0) rfl) rfl rfl (by unfold mOK; decide +kernel) rfl rfl cd_yX7_thrown ml_L_97 im_yX7_thrown se_yX7_thrown in_X7 rfl rfl ⟨Nat.le_of_ble_eq_true rfl, Nat.le_of_ble_eq_true rfl⟩ ⟨by show 74 + j + 1 ≤ 601024; omega, by show 1518 + 6 * j + 6 ≤ 7293034; omega⟩ rfl (Nat.le_of_ble_eq_true rfl) dL_law_1400 ?_
  refine g_iload F dL_law_1403 1 rfl ?_
  refine g_icmp_eq (tgt := 1410) F dL_law_1405 (by decide) (fun c1 => ?_) (fun c1 => absurd eT c1)
  refine g_iload F dL_law_1410 1 rfl ?_
  refine g_if_ne (tgt := 1427) F dL_law_1412 (by decide) (fun c7 => ?_) (fun c7 => ?_)
  · refine g_goto (tgt := 1593) F dL_law_1427 (by decide) ?_
    refine g_sub [2, 3, 4, 5, 6] rfl ?_
    exact next u1 v1 _ eR
  · have k0 : k = 0 := by
      rcases hk with rfl | rfl | rfl
      · rfl
      · exact absurd c7 (by decide)
      · exact absurd c7 (by decide)
    subst k0
    obtain rfl := eV rfl
    refine g_aload_n F dL_law_1415 3 rfl rfl ?_
    refine g_iconst (v := 0) F dL_law_1416 (by decide) ?_
    refine g_lald F 73 rfl (by unfold vp_in; decide) dL_law_1417 ?_
    refine g_iload F dL_law_1418 0 rfl ?_
    refine g_i2l F dL_law_1420 rfl ?_
    refine g_lcmp F dL_law_1421 ?_
    refine g_if_eq (tgt := 1427) F dL_law_1422 (by decide) (fun _ => ?_) (fun c8 => absurd (lgc_eq ?_) c8)
    · refine g_goto (tgt := 1593) F dL_law_1427 (by decide) ?_
      refine g_sub [2, 3, 4, 5, 6] rfl ?_
      exact next u1 v1 _ eR
    · rw [if_pos rfl]; rfl
def Sx_orders (Rel : St → St → Prop) : Prop := ∀ u v, Rel u v → ∃ r u1 v1, pX6_orders u = some (r, u1) ∧ pX7_orders v = some (r, v1) ∧ Rel u1 v1
set_option maxHeartbeats 4000000 in
set_option maxRecDepth 20000 in
theorem L_orders {p : Program} {l : Launch} {e : Env} {s : State} {m : MethodId} {args : Array Value} {below : List Frame} {meth : Method} {c : Code} {D : va_G} {Y : Nat → ClassId} {A : Nat → Prop} {Q : State → Prop} (F : Fx p s m args c D Y A code 7 RL) {b L : Nat} {xs : Nat → Int32} (HX : va_X b L xs s s.heap ∧ b < s.heap.size ∧ ¬ A b) (hKX : KX A s) (hl9 : l.stackTraces = false) {j : Nat} (hj : 6 * j + 6 ≤ L) (hL : L ≤ 3072) {q q' : Nat → Nat} {o : Nat} {u v : St} {f : Nat → Int64} {Rel : St → St → Prop} (S : Sx_orders Rel) (hR : Rel u v) (next : ∀ u1 v1 f1, Rel u1 v1 → GW p l e room_1 s m args below meth c D A 7 (74 + j + 1) (1518 + 6 * j + 6) Q (wM Y q' v1 ++ (wC Y q u1 ++ outW Y o f1)) 1593 [(4, .int (nI (6 * j))), (3, .ref o), (2, .ref (q' 0)), (1, .ref (q 0)), (0, .ref b)] []) : GW p l e room_1 s m args below meth c D A 7 (74 + j) (1518 + 6 * j) Q (wM Y q' v ++ (wC Y q u ++ outW Y o f)) 1430 [(4, .int (nI (6 * j))), (3, .ref o), (2, .ref (q' 0)), (1, .ref (q 0)), (0, .ref b)] [] := by
  obtain ⟨r, u1, v1, eC, eM, eR⟩ := S u v hR
  refine g_aload_n F dL_law_1430 3 rfl rfl ?_
  refine g_callVi (n := 0) (q0 := 0) (As := []) (ws1 := wM Y q' v ++ (wC Y q u1 ++ outW Y o f)) F (wM Y q' v) (outW Y o f) (kX6_orders eC) (List.append_assoc _ _ _).symm (List.append_assoc _ _ _) (by unfold mOK; decide +kernel) rfl rfl cd_yX6_orders ml_L_176 im_yX6_orders se_yX6_orders in_X6 rfl rfl ⟨Nat.le_of_ble_eq_true rfl, Nat.le_of_ble_eq_true rfl⟩ ⟨by show 74 + j ≤ 601024; omega, by show 1518 + 6 * j ≤ 7293034; omega⟩ rfl (Nat.le_of_ble_eq_true rfl) dL_law_1431 ?_
  refine g_aload_n F dL_law_1434 2 rfl rfl ?_
  refine g_callVi (n := 0) (q0 := 0) (As := []) (ws1 := wM Y q' v1 ++ (wC Y q u1 ++ outW Y o f)) F [] (wC Y q u1 ++ outW Y o f) (kX7_orders eM) rfl rfl (by unfold mOK; decide +kernel) rfl rfl cd_yX7_orders ml_L_179 im_yX7_orders se_yX7_orders in_X7 rfl rfl ⟨Nat.le_of_ble_eq_true rfl, Nat.le_of_ble_eq_true rfl⟩ ⟨by show 74 + j ≤ 601024; omega, by show 1518 + 6 * j ≤ 7293034; omega⟩ rfl (Nat.le_of_ble_eq_true rfl) dL_law_1435 ?_
  refine g_icmp_eq (tgt := 1593) F dL_law_1438 (by decide) (fun c1 => ?_) (fun c1 => absurd rfl c1)
  refine g_widen (k := 74 + j + 1) (n := 1518 + 6 * j + 6) (by omega) (by omega) ?_
  exact next u1 v1 _ eR
def Sx_can (Rel : St → St → Prop) : Prop := ∀ u v, Rel u v → ∀ a1 a2 : Int32, ∃ k r u1 b v1, pX6_can a1 a2 u = some (k, r, u1) ∧ (k = 0 ∨ k = 1) ∧ pX7_can a1 a2 v = some (b, v1) ∧ v1.2 0 = (if k = 0 then 0 else if k = 1 then 1 else 0) ∧ (k = 0 → r = b) ∧ Rel u1 v1
set_option maxHeartbeats 4000000 in
set_option maxRecDepth 20000 in
theorem L_can {p : Program} {l : Launch} {e : Env} {s : State} {m : MethodId} {args : Array Value} {below : List Frame} {meth : Method} {c : Code} {D : va_G} {Y : Nat → ClassId} {A : Nat → Prop} {Q : State → Prop} (F : Fx p s m args c D Y A code 7 RL) {b L : Nat} {xs : Nat → Int32} (HX : va_X b L xs s s.heap ∧ b < s.heap.size ∧ ¬ A b) (hKX : KX A s) (hl9 : l.stackTraces = false) {j : Nat} (hj : 6 * j + 6 ≤ L) (hL : L ≤ 3072) {q q' : Nat → Nat} {o : Nat} {u v : St} {f : Nat → Int64} {Rel : St → St → Prop} (S : Sx_can Rel) (hR : Rel u v) (next : ∀ u1 v1 f1, Rel u1 v1 → GW p l e room_1 s m args below meth c D A 7 (74 + j + 1) (1518 + 6 * j + 6) Q (wM Y q' v1 ++ (wC Y q u1 ++ outW Y o f1)) 1593 [(4, .int (nI (6 * j))), (3, .ref o), (2, .ref (q' 0)), (1, .ref (q 0)), (0, .ref b)] []) : GW p l e room_1 s m args below meth c D A 7 (74 + j) (1518 + 6 * j) Q (wM Y q' v ++ (wC Y q u ++ outW Y o f)) 1443 [(4, .int (nI (6 * j))), (3, .ref o), (2, .ref (q' 0)), (1, .ref (q 0)), (0, .ref b)] [] := by
  obtain ⟨k, r, u1, b9, v1, eC, hk, eM, eT, eV, eR⟩ := S u v hR (xs (nI (6 * j) + nI 1).toNatClampNeg) (xs (nI (6 * j) + nI 2).toNatClampNeg)
  refine g_aload_n F dL_law_1443 3 rfl rfl ?_
  refine g_aload_n F dL_law_1444 4 rfl rfl ?_
  refine g_iload F dL_law_1445 0 rfl ?_
  refine g_iconst (v := nI 1) F dL_law_1447 (by decide) ?_
  refine g_iadd F dL_law_1448 ?_
  refine g_sld F HX (scr_in hj hL 1 (by decide)) dL_law_1449 ?_
  refine g_aload_n F dL_law_1450 4 rfl rfl ?_
  refine g_iload F dL_law_1451 0 rfl ?_
  refine g_iconst (v := nI 2) F dL_law_1453 (by decide) ?_
  refine g_iadd F dL_law_1454 ?_
  refine g_sld F HX (scr_in hj hL 2 (by decide)) dL_law_1455 ?_
  refine g_aload_n F dL_law_1456 1 rfl rfl ?_
  refine g_callW (n := 4) (ws1 := wM Y q' v ++ (wC Y q u1 ++ outW Y o (if k = 0 then vp_updL f 0 (if r = 0 then (0 : Int64) else 1) else f))) F hKX (wM Y q' v) [] (wL_can eC hk hl9) (List.append_nil _).symm (List.append_nil _) (by unfold mOK; decide +kernel) rfl cw_yL_can ml_L_180 st_yL_can in_L ⟨Nat.le_of_ble_eq_true rfl, Nat.le_of_ble_eq_true rfl⟩ ⟨by show 74 + j + 1 ≤ 601024; omega, by show 1518 + 6 * j + 6 ≤ 7293034; omega⟩ rfl (Nat.le_of_ble_eq_true rfl) dL_law_1457 ?_
  refine g_istore (lv' := [(5, .int ((if k = 0 then 0 else if k = 1 then 1 else 0))), (4, .int (nI (6 * j))), (3, .ref o), (2, .ref (q' 0)), (1, .ref (q 0)), (0, .ref b)]) F dL_law_1460 (by decide) rfl ?_
  refine g_aload_n F dL_law_1462 3 rfl rfl ?_
  refine g_aload_n F dL_law_1463 5 rfl rfl ?_
  refine g_iload F dL_law_1464 1 rfl ?_
  refine g_iconst (v := nI 1) F dL_law_1466 (by decide) ?_
  refine g_iadd F dL_law_1467 ?_
  refine g_sld F HX (scr_in hj hL 1 (by decide)) dL_law_1468 ?_
  refine g_aload_n F dL_law_1469 5 rfl rfl ?_
  refine g_iload F dL_law_1470 1 rfl ?_
  refine g_iconst (v := nI 2) F dL_law_1472 (by decide) ?_
  refine g_iadd F dL_law_1473 ?_
  refine g_sld F HX (scr_in hj hL 2 (by decide)) dL_law_1474 ?_
  refine g_callVi (n := 2) (q0 := 0) (As := [.int (xs (nI (6 * j) + nI 1).toNatClampNeg), .int (xs (nI (6 * j) + nI 2).toNatClampNeg)]) (ws1 := wM Y q' v1 ++ (wC Y q u1 ++ outW Y o (if k = 0 then vp_updL f 0 (if r = 0 then (0 : Int64) else 1) else f))) F [] (wC Y q u1 ++ outW Y o (if k = 0 then vp_updL f 0 (if r = 0 then (0 : Int64) else 1) else f)) (kX7_can eM) rfl rfl (by unfold mOK; decide +kernel) rfl rfl cd_yX7_can ml_L_182 im_yX7_can se_yX7_can in_X7 rfl rfl ⟨Nat.le_of_ble_eq_true rfl, Nat.le_of_ble_eq_true rfl⟩ ⟨by show 74 + j + 1 ≤ 601024; omega, by show 1518 + 6 * j + 6 ≤ 7293034; omega⟩ rfl (Nat.le_of_ble_eq_true rfl) dL_law_1475 ?_
  refine g_istore (lv' := [(6, .int (b9)), (5, .int ((if k = 0 then 0 else if k = 1 then 1 else 0))), (4, .int (nI (6 * j))), (3, .ref o), (2, .ref (q' 0)), (1, .ref (q 0)), (0, .ref b)]) F dL_law_1478 (by decide) rfl ?_
  refine g_aload_n F dL_law_1480 4 rfl rfl ?_
  refine g_callVi (n := 0) (q0 := 0) (As := []) (ws1 := wM Y q' v1 ++ (wC Y q u1 ++ outW Y o (if k = 0 then vp_updL f 0 (if r = 0 then (0 : Int64) else 1) else f))) F [] (wC Y q u1 ++ outW Y o (if k = 0 then vp_updL f 0 (if r = 0 then (0 : Int64) else 1) else f)) (kX7_thrown (u := v1) (u1 := v1) (r := v1.2 0) rfl) rfl rfl (by unfold mOK; decide +kernel) rfl rfl cd_yX7_thrown ml_L_97 im_yX7_thrown se_yX7_thrown in_X7 rfl rfl ⟨Nat.le_of_ble_eq_true rfl, Nat.le_of_ble_eq_true rfl⟩ ⟨by show 74 + j + 1 ≤ 601024; omega, by show 1518 + 6 * j + 6 ≤ 7293034; omega⟩ rfl (Nat.le_of_ble_eq_true rfl) dL_law_1481 ?_
  refine g_iload F dL_law_1484 1 rfl ?_
  refine g_icmp_eq (tgt := 1491) F dL_law_1486 (by decide) (fun c1 => ?_) (fun c1 => absurd eT c1)
  refine g_iload F dL_law_1491 1 rfl ?_
  refine g_if_ne (tgt := 1515) F dL_law_1493 (by decide) (fun c7 => ?_) (fun c7 => ?_)
  · refine g_goto (tgt := 1593) F dL_law_1515 (by decide) ?_
    refine g_sub [2, 3, 4, 5, 6] rfl ?_
    exact next u1 v1 _ eR
  · have k0 : k = 0 := by
      rcases hk with rfl | rfl
      · rfl
      · exact absurd c7 (by decide)
    subst k0
    obtain rfl := eV rfl
    refine g_aload_n F dL_law_1496 3 rfl rfl ?_
    refine g_iconst (v := 0) F dL_law_1497 (by decide) ?_
    refine g_lald F 73 rfl (by unfold vp_in; decide) dL_law_1498 ?_
    refine g_iload F dL_law_1499 0 rfl ?_
    refine g_if_eq (tgt := 1508) F dL_law_1501 (by decide) (fun c6 => ?_) (fun c6 => ?_)
    · refine g_lconst (v := 0) F dL_law_1508 rfl ?_
      refine g_lcmp F dL_law_1509 ?_
      refine g_if_eq (tgt := 1515) F dL_law_1510 (by decide) (fun _ => ?_) (fun c8 => absurd (lgc_eq ?_) c8)
      · refine g_goto (tgt := 1593) F dL_law_1515 (by decide) ?_
        refine g_sub [2, 3, 4, 5, 6] rfl ?_
        exact next u1 v1 _ eR
      · rw [if_pos rfl, if_pos c6]; rfl
    · refine g_lconst (v := 1) F dL_law_1504 rfl ?_
      refine g_goto (tgt := 1509) F dL_law_1505 (by decide) ?_
      refine g_lcmp F dL_law_1509 ?_
      refine g_if_eq (tgt := 1515) F dL_law_1510 (by decide) (fun _ => ?_) (fun c8 => absurd (lgc_eq ?_) c8)
      · refine g_goto (tgt := 1593) F dL_law_1515 (by decide) ?_
        refine g_sub [2, 3, 4, 5, 6] rfl ?_
        exact next u1 v1 _ eR
      · rw [if_pos rfl, if_neg c6]; rfl
def Sx_may (Rel : St → St → Prop) : Prop := ∀ u v, Rel u v → ∀ a1 a2 : Int32, ∃ k r u1 b v1, pX6_may a1 a2 u = some (k, r, u1) ∧ (k = 0 ∨ k = 1) ∧ pX7_may a1 a2 v = some (b, v1) ∧ v1.2 0 = (if k = 0 then 0 else if k = 1 then 1 else 0) ∧ (k = 0 → r = b) ∧ Rel u1 v1
set_option maxHeartbeats 4000000 in
set_option maxRecDepth 20000 in
theorem L_may {p : Program} {l : Launch} {e : Env} {s : State} {m : MethodId} {args : Array Value} {below : List Frame} {meth : Method} {c : Code} {D : va_G} {Y : Nat → ClassId} {A : Nat → Prop} {Q : State → Prop} (F : Fx p s m args c D Y A code 7 RL) {b L : Nat} {xs : Nat → Int32} (HX : va_X b L xs s s.heap ∧ b < s.heap.size ∧ ¬ A b) (hKX : KX A s) (hl9 : l.stackTraces = false) {j : Nat} (hj : 6 * j + 6 ≤ L) (hL : L ≤ 3072) {q q' : Nat → Nat} {o : Nat} {u v : St} {f : Nat → Int64} {Rel : St → St → Prop} (S : Sx_may Rel) (hR : Rel u v) (next : ∀ u1 v1 f1, Rel u1 v1 → GW p l e room_1 s m args below meth c D A 7 (74 + j + 1) (1518 + 6 * j + 6) Q (wM Y q' v1 ++ (wC Y q u1 ++ outW Y o f1)) 1593 [(4, .int (nI (6 * j))), (3, .ref o), (2, .ref (q' 0)), (1, .ref (q 0)), (0, .ref b)] []) : GW p l e room_1 s m args below meth c D A 7 (74 + j) (1518 + 6 * j) Q (wM Y q' v ++ (wC Y q u ++ outW Y o f)) 1518 [(4, .int (nI (6 * j))), (3, .ref o), (2, .ref (q' 0)), (1, .ref (q 0)), (0, .ref b)] [] := by
  obtain ⟨k, r, u1, b9, v1, eC, hk, eM, eT, eV, eR⟩ := S u v hR (xs (nI (6 * j) + nI 1).toNatClampNeg) (xs (nI (6 * j) + nI 2).toNatClampNeg)
  refine g_aload_n F dL_law_1518 3 rfl rfl ?_
  refine g_aload_n F dL_law_1519 4 rfl rfl ?_
  refine g_iload F dL_law_1520 0 rfl ?_
  refine g_iconst (v := nI 1) F dL_law_1522 (by decide) ?_
  refine g_iadd F dL_law_1523 ?_
  refine g_sld F HX (scr_in hj hL 1 (by decide)) dL_law_1524 ?_
  refine g_aload_n F dL_law_1525 4 rfl rfl ?_
  refine g_iload F dL_law_1526 0 rfl ?_
  refine g_iconst (v := nI 2) F dL_law_1528 (by decide) ?_
  refine g_iadd F dL_law_1529 ?_
  refine g_sld F HX (scr_in hj hL 2 (by decide)) dL_law_1530 ?_
  refine g_aload_n F dL_law_1531 1 rfl rfl ?_
  refine g_callW (n := 4) (ws1 := wM Y q' v ++ (wC Y q u1 ++ outW Y o (if k = 0 then vp_updL f 0 (if r = 0 then (0 : Int64) else 1) else f))) F hKX (wM Y q' v) [] (wL_may eC hk hl9) (List.append_nil _).symm (List.append_nil _) (by unfold mOK; decide +kernel) rfl cw_yL_may ml_L_183 st_yL_may in_L ⟨Nat.le_of_ble_eq_true rfl, Nat.le_of_ble_eq_true rfl⟩ ⟨by show 74 + j + 1 ≤ 601024; omega, by show 1518 + 6 * j + 6 ≤ 7293034; omega⟩ rfl (Nat.le_of_ble_eq_true rfl) dL_law_1532 ?_
  refine g_istore (lv' := [(5, .int ((if k = 0 then 0 else if k = 1 then 1 else 0))), (4, .int (nI (6 * j))), (3, .ref o), (2, .ref (q' 0)), (1, .ref (q 0)), (0, .ref b)]) F dL_law_1535 (by decide) rfl ?_
  refine g_aload_n F dL_law_1537 3 rfl rfl ?_
  refine g_aload_n F dL_law_1538 5 rfl rfl ?_
  refine g_iload F dL_law_1539 1 rfl ?_
  refine g_iconst (v := nI 1) F dL_law_1541 (by decide) ?_
  refine g_iadd F dL_law_1542 ?_
  refine g_sld F HX (scr_in hj hL 1 (by decide)) dL_law_1543 ?_
  refine g_aload_n F dL_law_1544 5 rfl rfl ?_
  refine g_iload F dL_law_1545 1 rfl ?_
  refine g_iconst (v := nI 2) F dL_law_1547 (by decide) ?_
  refine g_iadd F dL_law_1548 ?_
  refine g_sld F HX (scr_in hj hL 2 (by decide)) dL_law_1549 ?_
  refine g_callVi (n := 2) (q0 := 0) (As := [.int (xs (nI (6 * j) + nI 1).toNatClampNeg), .int (xs (nI (6 * j) + nI 2).toNatClampNeg)]) (ws1 := wM Y q' v1 ++ (wC Y q u1 ++ outW Y o (if k = 0 then vp_updL f 0 (if r = 0 then (0 : Int64) else 1) else f))) F [] (wC Y q u1 ++ outW Y o (if k = 0 then vp_updL f 0 (if r = 0 then (0 : Int64) else 1) else f)) (kX7_may eM) rfl rfl (by unfold mOK; decide +kernel) rfl rfl cd_yX7_may ml_L_185 im_yX7_may se_yX7_may in_X7 rfl rfl ⟨Nat.le_of_ble_eq_true rfl, Nat.le_of_ble_eq_true rfl⟩ ⟨by show 74 + j + 1 ≤ 601024; omega, by show 1518 + 6 * j + 6 ≤ 7293034; omega⟩ rfl (Nat.le_of_ble_eq_true rfl) dL_law_1550 ?_
  refine g_istore (lv' := [(6, .int (b9)), (5, .int ((if k = 0 then 0 else if k = 1 then 1 else 0))), (4, .int (nI (6 * j))), (3, .ref o), (2, .ref (q' 0)), (1, .ref (q 0)), (0, .ref b)]) F dL_law_1553 (by decide) rfl ?_
  refine g_aload_n F dL_law_1555 4 rfl rfl ?_
  refine g_callVi (n := 0) (q0 := 0) (As := []) (ws1 := wM Y q' v1 ++ (wC Y q u1 ++ outW Y o (if k = 0 then vp_updL f 0 (if r = 0 then (0 : Int64) else 1) else f))) F [] (wC Y q u1 ++ outW Y o (if k = 0 then vp_updL f 0 (if r = 0 then (0 : Int64) else 1) else f)) (kX7_thrown (u := v1) (u1 := v1) (r := v1.2 0) rfl) rfl rfl (by unfold mOK; decide +kernel) rfl rfl cd_yX7_thrown ml_L_97 im_yX7_thrown se_yX7_thrown in_X7 rfl rfl ⟨Nat.le_of_ble_eq_true rfl, Nat.le_of_ble_eq_true rfl⟩ ⟨by show 74 + j + 1 ≤ 601024; omega, by show 1518 + 6 * j + 6 ≤ 7293034; omega⟩ rfl (Nat.le_of_ble_eq_true rfl) dL_law_1556 ?_
  refine g_iload F dL_law_1559 1 rfl ?_
  refine g_icmp_eq (tgt := 1566) F dL_law_1561 (by decide) (fun c1 => ?_) (fun c1 => absurd eT c1)
  refine g_iload F dL_law_1566 1 rfl ?_
  refine g_if_ne (tgt := 1590) F dL_law_1568 (by decide) (fun c7 => ?_) (fun c7 => ?_)
  · refine g_goto (tgt := 1593) F dL_law_1590 (by decide) ?_
    refine g_sub [2, 3, 4, 5, 6] rfl ?_
    exact next u1 v1 _ eR
  · have k0 : k = 0 := by
      rcases hk with rfl | rfl
      · rfl
      · exact absurd c7 (by decide)
    subst k0
    obtain rfl := eV rfl
    refine g_aload_n F dL_law_1571 3 rfl rfl ?_
    refine g_iconst (v := 0) F dL_law_1572 (by decide) ?_
    refine g_lald F 73 rfl (by unfold vp_in; decide) dL_law_1573 ?_
    refine g_iload F dL_law_1574 0 rfl ?_
    refine g_if_eq (tgt := 1583) F dL_law_1576 (by decide) (fun c6 => ?_) (fun c6 => ?_)
    · refine g_lconst (v := 0) F dL_law_1583 rfl ?_
      refine g_lcmp F dL_law_1584 ?_
      refine g_if_eq (tgt := 1590) F dL_law_1585 (by decide) (fun _ => ?_) (fun c8 => absurd (lgc_eq ?_) c8)
      · refine g_goto (tgt := 1593) F dL_law_1590 (by decide) ?_
        refine g_sub [2, 3, 4, 5, 6] rfl ?_
        exact next u1 v1 _ eR
      · rw [if_pos rfl, if_pos c6]; rfl
    · refine g_lconst (v := 1) F dL_law_1579 rfl ?_
      refine g_goto (tgt := 1584) F dL_law_1580 (by decide) ?_
      refine g_lcmp F dL_law_1584 ?_
      refine g_if_eq (tgt := 1590) F dL_law_1585 (by decide) (fun _ => ?_) (fun c8 => absurd (lgc_eq ?_) c8)
      · refine g_goto (tgt := 1593) F dL_law_1590 (by decide) ?_
        refine g_sub [2, 3, 4, 5, 6] rfl ?_
        exact next u1 v1 _ eR
      · rw [if_pos rfl, if_neg c6]; rfl
