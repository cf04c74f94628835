/-! THE LAW: its instructions, its words -/
theorem d_law_0 : decode code 0 = .ok (.new 7, 3) := by decide +kernel
theorem d_law_3 : decode code 3 = .ok (.dup, 1) := by decide +kernel
theorem d_law_4 : decode code 4 = .ok (.invokespecial 9, 3) := by decide +kernel
theorem d_law_7 : decode code 7 = .ok (.astore_n 1, 1) := by decide +kernel
theorem d_law_8 : decode code 8 = .ok (.new 10, 3) := by decide +kernel
theorem d_law_11 : decode code 11 = .ok (.dup, 1) := by decide +kernel
theorem d_law_12 : decode code 12 = .ok (.invokespecial 12, 3) := by decide +kernel
theorem d_law_15 : decode code 15 = .ok (.astore_n 2, 1) := by decide +kernel
theorem d_law_16 : decode code 16 = .ok (.iconst 0, 1) := by decide +kernel
theorem d_law_17 : decode code 17 = .ok (.istore_n 3, 1) := by decide +kernel
theorem d_law_18 : decode code 18 = .ok (.iload_n 3, 1) := by decide +kernel
theorem d_law_19 : decode code 19 = .ok (.aload_n 0, 1) := by decide +kernel
theorem d_law_20 : decode code 20 = .ok (.arraylength, 1) := by decide +kernel
theorem d_law_21 : decode code 21 = .ok (.bipush 6, 2) := by decide +kernel
theorem d_law_23 : decode code 23 = .ok (.isub, 1) := by decide +kernel
theorem d_law_24 : decode code 24 = .ok (.if_icmp .gt 1267, 3) := by decide +kernel
theorem d_law_27 : decode code 27 = .ok (.aload_n 0, 1) := by decide +kernel
theorem d_law_28 : decode code 28 = .ok (.iload_n 3, 1) := by decide +kernel
theorem d_law_29 : decode code 29 = .ok (.iaload, 1) := by decide +kernel
theorem d_law_30 : decode code 30 = .ok (.bipush 63, 2) := by decide +kernel
theorem d_law_32 : decode code 32 = .ok (.iand, 1) := by decide +kernel
theorem d_law_33 : decode code 33 = .ok (.tableswitch 1252 0 33 #[151, 184, 237, 270, 303, 326, 339, 362, 385, 398, 441, 474, 507, 540, 563, 586, 609, 632, 685, 728, 762, 796, 845, 858, 891, 904, 917, 960, 983, 1016, 1039, 1082, 1155, 1189], 151) := by decide +kernel
theorem d_law_184 : decode code 184 = .ok (.aload_n 1, 1) := by decide +kernel
theorem d_law_185 : decode code 185 = .ok (.aload_n 0, 1) := by decide +kernel
theorem d_law_186 : decode code 186 = .ok (.iload_n 3, 1) := by decide +kernel
theorem d_law_187 : decode code 187 = .ok (.iconst 1, 1) := by decide +kernel
theorem d_law_188 : decode code 188 = .ok (.iadd, 1) := by decide +kernel
theorem d_law_189 : decode code 189 = .ok (.iaload, 1) := by decide +kernel
theorem d_law_190 : decode code 190 = .ok (.aload_n 0, 1) := by decide +kernel
theorem d_law_191 : decode code 191 = .ok (.iload_n 3, 1) := by decide +kernel
theorem d_law_192 : decode code 192 = .ok (.iconst 2, 1) := by decide +kernel
theorem d_law_193 : decode code 193 = .ok (.iadd, 1) := by decide +kernel
theorem d_law_194 : decode code 194 = .ok (.iaload, 1) := by decide +kernel
theorem d_law_195 : decode code 195 = .ok (.invokevirtual 13, 3) := by decide +kernel
theorem d_law_198 : decode code 198 = .ok (.aload_n 2, 1) := by decide +kernel
theorem d_law_199 : decode code 199 = .ok (.aload_n 0, 1) := by decide +kernel
theorem d_law_200 : decode code 200 = .ok (.iload_n 3, 1) := by decide +kernel
theorem d_law_201 : decode code 201 = .ok (.iconst 1, 1) := by decide +kernel
theorem d_law_202 : decode code 202 = .ok (.iadd, 1) := by decide +kernel
theorem d_law_203 : decode code 203 = .ok (.iaload, 1) := by decide +kernel
theorem d_law_204 : decode code 204 = .ok (.aload_n 0, 1) := by decide +kernel
theorem d_law_205 : decode code 205 = .ok (.iload_n 3, 1) := by decide +kernel
theorem d_law_206 : decode code 206 = .ok (.iconst 2, 1) := by decide +kernel
theorem d_law_207 : decode code 207 = .ok (.iadd, 1) := by decide +kernel
theorem d_law_208 : decode code 208 = .ok (.iaload, 1) := by decide +kernel
theorem d_law_209 : decode code 209 = .ok (.invokevirtual 17, 3) := by decide +kernel
theorem d_law_212 : decode code 212 = .ok (.if_icmp .eq 1073, 3) := by decide +kernel
theorem d_law_215 : decode code 215 = .ok (.iconst 0, 1) := by decide +kernel
theorem d_law_216 : decode code 216 = .ok (.ireturn, 1) := by decide +kernel
theorem d_law_217 : decode code 217 = .ok (.aload_n 1, 1) := by decide +kernel
theorem d_law_218 : decode code 218 = .ok (.aload_n 0, 1) := by decide +kernel
theorem d_law_219 : decode code 219 = .ok (.iload_n 3, 1) := by decide +kernel
theorem d_law_220 : decode code 220 = .ok (.iconst 1, 1) := by decide +kernel
theorem d_law_221 : decode code 221 = .ok (.iadd, 1) := by decide +kernel
theorem d_law_222 : decode code 222 = .ok (.iaload, 1) := by decide +kernel
theorem d_law_223 : decode code 223 = .ok (.aload_n 0, 1) := by decide +kernel
theorem d_law_224 : decode code 224 = .ok (.iload_n 3, 1) := by decide +kernel
theorem d_law_225 : decode code 225 = .ok (.iconst 2, 1) := by decide +kernel
theorem d_law_226 : decode code 226 = .ok (.iadd, 1) := by decide +kernel
theorem d_law_227 : decode code 227 = .ok (.iaload, 1) := by decide +kernel
theorem d_law_228 : decode code 228 = .ok (.aload_n 0, 1) := by decide +kernel
theorem d_law_229 : decode code 229 = .ok (.iload_n 3, 1) := by decide +kernel
theorem d_law_230 : decode code 230 = .ok (.iconst 3, 1) := by decide +kernel
theorem d_law_231 : decode code 231 = .ok (.iadd, 1) := by decide +kernel
theorem d_law_232 : decode code 232 = .ok (.iaload, 1) := by decide +kernel
theorem d_law_233 : decode code 233 = .ok (.aload_n 0, 1) := by decide +kernel
theorem d_law_234 : decode code 234 = .ok (.iload_n 3, 1) := by decide +kernel
theorem d_law_235 : decode code 235 = .ok (.iconst 4, 1) := by decide +kernel
theorem d_law_236 : decode code 236 = .ok (.iadd, 1) := by decide +kernel
theorem d_law_237 : decode code 237 = .ok (.iaload, 1) := by decide +kernel
theorem d_law_238 : decode code 238 = .ok (.invokevirtual 18, 3) := by decide +kernel
theorem d_law_241 : decode code 241 = .ok (.aload_n 2, 1) := by decide +kernel
theorem d_law_242 : decode code 242 = .ok (.aload_n 0, 1) := by decide +kernel
theorem d_law_243 : decode code 243 = .ok (.iload_n 3, 1) := by decide +kernel
theorem d_law_244 : decode code 244 = .ok (.iconst 1, 1) := by decide +kernel
theorem d_law_245 : decode code 245 = .ok (.iadd, 1) := by decide +kernel
theorem d_law_246 : decode code 246 = .ok (.iaload, 1) := by decide +kernel
theorem d_law_247 : decode code 247 = .ok (.aload_n 0, 1) := by decide +kernel
theorem d_law_248 : decode code 248 = .ok (.iload_n 3, 1) := by decide +kernel
theorem d_law_249 : decode code 249 = .ok (.iconst 2, 1) := by decide +kernel
theorem d_law_250 : decode code 250 = .ok (.iadd, 1) := by decide +kernel
theorem d_law_251 : decode code 251 = .ok (.iaload, 1) := by decide +kernel
theorem d_law_252 : decode code 252 = .ok (.aload_n 0, 1) := by decide +kernel
theorem d_law_253 : decode code 253 = .ok (.iload_n 3, 1) := by decide +kernel
theorem d_law_254 : decode code 254 = .ok (.iconst 3, 1) := by decide +kernel
theorem d_law_255 : decode code 255 = .ok (.iadd, 1) := by decide +kernel
theorem d_law_256 : decode code 256 = .ok (.iaload, 1) := by decide +kernel
theorem d_law_257 : decode code 257 = .ok (.aload_n 0, 1) := by decide +kernel
theorem d_law_258 : decode code 258 = .ok (.iload_n 3, 1) := by decide +kernel
theorem d_law_259 : decode code 259 = .ok (.iconst 4, 1) := by decide +kernel
theorem d_law_260 : decode code 260 = .ok (.iadd, 1) := by decide +kernel
theorem d_law_261 : decode code 261 = .ok (.iaload, 1) := by decide +kernel
theorem d_law_262 : decode code 262 = .ok (.invokevirtual 22, 3) := by decide +kernel
theorem d_law_265 : decode code 265 = .ok (.if_icmp .eq 1020, 3) := by decide +kernel
theorem d_law_268 : decode code 268 = .ok (.iconst 0, 1) := by decide +kernel
theorem d_law_269 : decode code 269 = .ok (.ireturn, 1) := by decide +kernel
theorem d_law_270 : decode code 270 = .ok (.aload_n 1, 1) := by decide +kernel
theorem d_law_271 : decode code 271 = .ok (.aload_n 0, 1) := by decide +kernel
theorem d_law_272 : decode code 272 = .ok (.iload_n 3, 1) := by decide +kernel
theorem d_law_273 : decode code 273 = .ok (.iconst 1, 1) := by decide +kernel
theorem d_law_274 : decode code 274 = .ok (.iadd, 1) := by decide +kernel
theorem d_law_275 : decode code 275 = .ok (.iaload, 1) := by decide +kernel
theorem d_law_276 : decode code 276 = .ok (.aload_n 0, 1) := by decide +kernel
theorem d_law_277 : decode code 277 = .ok (.iload_n 3, 1) := by decide +kernel
theorem d_law_278 : decode code 278 = .ok (.iconst 2, 1) := by decide +kernel
theorem d_law_279 : decode code 279 = .ok (.iadd, 1) := by decide +kernel
theorem d_law_280 : decode code 280 = .ok (.iaload, 1) := by decide +kernel
theorem d_law_281 : decode code 281 = .ok (.invokevirtual 23, 3) := by decide +kernel
theorem d_law_284 : decode code 284 = .ok (.aload_n 2, 1) := by decide +kernel
theorem d_law_285 : decode code 285 = .ok (.aload_n 0, 1) := by decide +kernel
theorem d_law_286 : decode code 286 = .ok (.iload_n 3, 1) := by decide +kernel
theorem d_law_287 : decode code 287 = .ok (.iconst 1, 1) := by decide +kernel
theorem d_law_288 : decode code 288 = .ok (.iadd, 1) := by decide +kernel
theorem d_law_289 : decode code 289 = .ok (.iaload, 1) := by decide +kernel
theorem d_law_290 : decode code 290 = .ok (.aload_n 0, 1) := by decide +kernel
theorem d_law_291 : decode code 291 = .ok (.iload_n 3, 1) := by decide +kernel
theorem d_law_292 : decode code 292 = .ok (.iconst 2, 1) := by decide +kernel
theorem d_law_293 : decode code 293 = .ok (.iadd, 1) := by decide +kernel
theorem d_law_294 : decode code 294 = .ok (.iaload, 1) := by decide +kernel
theorem d_law_295 : decode code 295 = .ok (.invokevirtual 26, 3) := by decide +kernel
theorem d_law_298 : decode code 298 = .ok (.if_icmp .eq 987, 3) := by decide +kernel
theorem d_law_301 : decode code 301 = .ok (.iconst 0, 1) := by decide +kernel
theorem d_law_302 : decode code 302 = .ok (.ireturn, 1) := by decide +kernel
theorem d_law_303 : decode code 303 = .ok (.aload_n 1, 1) := by decide +kernel
theorem d_law_304 : decode code 304 = .ok (.aload_n 0, 1) := by decide +kernel
theorem d_law_305 : decode code 305 = .ok (.iload_n 3, 1) := by decide +kernel
theorem d_law_306 : decode code 306 = .ok (.iconst 1, 1) := by decide +kernel
theorem d_law_307 : decode code 307 = .ok (.iadd, 1) := by decide +kernel
theorem d_law_308 : decode code 308 = .ok (.iaload, 1) := by decide +kernel
theorem d_law_309 : decode code 309 = .ok (.aload_n 0, 1) := by decide +kernel
theorem d_law_310 : decode code 310 = .ok (.iload_n 3, 1) := by decide +kernel
theorem d_law_311 : decode code 311 = .ok (.iconst 2, 1) := by decide +kernel
theorem d_law_312 : decode code 312 = .ok (.iadd, 1) := by decide +kernel
theorem d_law_313 : decode code 313 = .ok (.iaload, 1) := by decide +kernel
theorem d_law_314 : decode code 314 = .ok (.invokevirtual 27, 3) := by decide +kernel
theorem d_law_317 : decode code 317 = .ok (.aload_n 2, 1) := by decide +kernel
theorem d_law_318 : decode code 318 = .ok (.aload_n 0, 1) := by decide +kernel
theorem d_law_319 : decode code 319 = .ok (.iload_n 3, 1) := by decide +kernel
theorem d_law_320 : decode code 320 = .ok (.iconst 1, 1) := by decide +kernel
theorem d_law_321 : decode code 321 = .ok (.iadd, 1) := by decide +kernel
theorem d_law_322 : decode code 322 = .ok (.iaload, 1) := by decide +kernel
theorem d_law_323 : decode code 323 = .ok (.aload_n 0, 1) := by decide +kernel
theorem d_law_324 : decode code 324 = .ok (.iload_n 3, 1) := by decide +kernel
theorem d_law_325 : decode code 325 = .ok (.iconst 2, 1) := by decide +kernel
theorem d_law_326 : decode code 326 = .ok (.iadd, 1) := by decide +kernel
theorem d_law_327 : decode code 327 = .ok (.iaload, 1) := by decide +kernel
theorem d_law_328 : decode code 328 = .ok (.invokevirtual 30, 3) := by decide +kernel
theorem d_law_331 : decode code 331 = .ok (.if_icmp .eq 954, 3) := by decide +kernel
theorem d_law_334 : decode code 334 = .ok (.iconst 0, 1) := by decide +kernel
theorem d_law_335 : decode code 335 = .ok (.ireturn, 1) := by decide +kernel
theorem d_law_336 : decode code 336 = .ok (.aload_n 1, 1) := by decide +kernel
theorem d_law_337 : decode code 337 = .ok (.aload_n 0, 1) := by decide +kernel
theorem d_law_338 : decode code 338 = .ok (.iload_n 3, 1) := by decide +kernel
theorem d_law_339 : decode code 339 = .ok (.iconst 1, 1) := by decide +kernel
theorem d_law_340 : decode code 340 = .ok (.iadd, 1) := by decide +kernel
theorem d_law_341 : decode code 341 = .ok (.iaload, 1) := by decide +kernel
theorem d_law_342 : decode code 342 = .ok (.invokevirtual 31, 3) := by decide +kernel
theorem d_law_345 : decode code 345 = .ok (.aload_n 2, 1) := by decide +kernel
theorem d_law_346 : decode code 346 = .ok (.aload_n 0, 1) := by decide +kernel
theorem d_law_347 : decode code 347 = .ok (.iload_n 3, 1) := by decide +kernel
theorem d_law_348 : decode code 348 = .ok (.iconst 1, 1) := by decide +kernel
theorem d_law_349 : decode code 349 = .ok (.iadd, 1) := by decide +kernel
theorem d_law_350 : decode code 350 = .ok (.iaload, 1) := by decide +kernel
theorem d_law_351 : decode code 351 = .ok (.invokevirtual 35, 3) := by decide +kernel
theorem d_law_354 : decode code 354 = .ok (.if_icmp .eq 931, 3) := by decide +kernel
theorem d_law_357 : decode code 357 = .ok (.iconst 0, 1) := by decide +kernel
theorem d_law_358 : decode code 358 = .ok (.ireturn, 1) := by decide +kernel
theorem d_law_359 : decode code 359 = .ok (.aload_n 1, 1) := by decide +kernel
theorem d_law_360 : decode code 360 = .ok (.invokevirtual 36, 3) := by decide +kernel
theorem d_law_363 : decode code 363 = .ok (.aload_n 2, 1) := by decide +kernel
theorem d_law_364 : decode code 364 = .ok (.invokevirtual 40, 3) := by decide +kernel
theorem d_law_367 : decode code 367 = .ok (.if_icmp .eq 918, 3) := by decide +kernel
theorem d_law_370 : decode code 370 = .ok (.iconst 0, 1) := by decide +kernel
theorem d_law_371 : decode code 371 = .ok (.ireturn, 1) := by decide +kernel
theorem d_law_372 : decode code 372 = .ok (.aload_n 1, 1) := by decide +kernel
theorem d_law_373 : decode code 373 = .ok (.aload_n 0, 1) := by decide +kernel
theorem d_law_374 : decode code 374 = .ok (.iload_n 3, 1) := by decide +kernel
theorem d_law_375 : decode code 375 = .ok (.iconst 1, 1) := by decide +kernel
theorem d_law_376 : decode code 376 = .ok (.iadd, 1) := by decide +kernel
theorem d_law_377 : decode code 377 = .ok (.iaload, 1) := by decide +kernel
theorem d_law_378 : decode code 378 = .ok (.invokevirtual 41, 3) := by decide +kernel
theorem d_law_381 : decode code 381 = .ok (.aload_n 2, 1) := by decide +kernel
theorem d_law_382 : decode code 382 = .ok (.aload_n 0, 1) := by decide +kernel
theorem d_law_383 : decode code 383 = .ok (.iload_n 3, 1) := by decide +kernel
theorem d_law_384 : decode code 384 = .ok (.iconst 1, 1) := by decide +kernel
theorem d_law_385 : decode code 385 = .ok (.iadd, 1) := by decide +kernel
theorem d_law_386 : decode code 386 = .ok (.iaload, 1) := by decide +kernel
theorem d_law_387 : decode code 387 = .ok (.invokevirtual 44, 3) := by decide +kernel
theorem d_law_390 : decode code 390 = .ok (.if_icmp .eq 895, 3) := by decide +kernel
theorem d_law_393 : decode code 393 = .ok (.iconst 0, 1) := by decide +kernel
theorem d_law_394 : decode code 394 = .ok (.ireturn, 1) := by decide +kernel
theorem d_law_395 : decode code 395 = .ok (.aload_n 1, 1) := by decide +kernel
theorem d_law_396 : decode code 396 = .ok (.aload_n 0, 1) := by decide +kernel
theorem d_law_397 : decode code 397 = .ok (.iload_n 3, 1) := by decide +kernel
theorem d_law_398 : decode code 398 = .ok (.iconst 1, 1) := by decide +kernel
theorem d_law_399 : decode code 399 = .ok (.iadd, 1) := by decide +kernel
theorem d_law_400 : decode code 400 = .ok (.iaload, 1) := by decide +kernel
theorem d_law_401 : decode code 401 = .ok (.invokevirtual 45, 3) := by decide +kernel
theorem d_law_404 : decode code 404 = .ok (.aload_n 2, 1) := by decide +kernel
theorem d_law_405 : decode code 405 = .ok (.aload_n 0, 1) := by decide +kernel
theorem d_law_406 : decode code 406 = .ok (.iload_n 3, 1) := by decide +kernel
theorem d_law_407 : decode code 407 = .ok (.iconst 1, 1) := by decide +kernel
theorem d_law_408 : decode code 408 = .ok (.iadd, 1) := by decide +kernel
theorem d_law_409 : decode code 409 = .ok (.iaload, 1) := by decide +kernel
theorem d_law_410 : decode code 410 = .ok (.invokevirtual 48, 3) := by decide +kernel
theorem d_law_413 : decode code 413 = .ok (.if_icmp .eq 872, 3) := by decide +kernel
theorem d_law_416 : decode code 416 = .ok (.iconst 0, 1) := by decide +kernel
theorem d_law_417 : decode code 417 = .ok (.ireturn, 1) := by decide +kernel
theorem d_law_418 : decode code 418 = .ok (.aload_n 1, 1) := by decide +kernel
theorem d_law_419 : decode code 419 = .ok (.invokevirtual 49, 3) := by decide +kernel
theorem d_law_422 : decode code 422 = .ok (.aload_n 2, 1) := by decide +kernel
theorem d_law_423 : decode code 423 = .ok (.invokevirtual 52, 3) := by decide +kernel
theorem d_law_426 : decode code 426 = .ok (.if_icmp .eq 859, 3) := by decide +kernel
theorem d_law_429 : decode code 429 = .ok (.iconst 0, 1) := by decide +kernel
theorem d_law_430 : decode code 430 = .ok (.ireturn, 1) := by decide +kernel
theorem d_law_431 : decode code 431 = .ok (.aload_n 1, 1) := by decide +kernel
theorem d_law_432 : decode code 432 = .ok (.aload_n 0, 1) := by decide +kernel
theorem d_law_433 : decode code 433 = .ok (.iload_n 3, 1) := by decide +kernel
theorem d_law_434 : decode code 434 = .ok (.iconst 1, 1) := by decide +kernel
theorem d_law_435 : decode code 435 = .ok (.iadd, 1) := by decide +kernel
theorem d_law_436 : decode code 436 = .ok (.iaload, 1) := by decide +kernel
theorem d_law_437 : decode code 437 = .ok (.aload_n 0, 1) := by decide +kernel
theorem d_law_438 : decode code 438 = .ok (.iload_n 3, 1) := by decide +kernel
theorem d_law_439 : decode code 439 = .ok (.iconst 2, 1) := by decide +kernel
theorem d_law_440 : decode code 440 = .ok (.iadd, 1) := by decide +kernel
theorem d_law_441 : decode code 441 = .ok (.iaload, 1) := by decide +kernel
theorem d_law_442 : decode code 442 = .ok (.aload_n 0, 1) := by decide +kernel
theorem d_law_443 : decode code 443 = .ok (.iload_n 3, 1) := by decide +kernel
theorem d_law_444 : decode code 444 = .ok (.iconst 3, 1) := by decide +kernel
theorem d_law_445 : decode code 445 = .ok (.iadd, 1) := by decide +kernel
theorem d_law_446 : decode code 446 = .ok (.iaload, 1) := by decide +kernel
theorem d_law_447 : decode code 447 = .ok (.invokevirtual 53, 3) := by decide +kernel
theorem d_law_450 : decode code 450 = .ok (.aload_n 2, 1) := by decide +kernel
theorem d_law_451 : decode code 451 = .ok (.aload_n 0, 1) := by decide +kernel
theorem d_law_452 : decode code 452 = .ok (.iload_n 3, 1) := by decide +kernel
theorem d_law_453 : decode code 453 = .ok (.iconst 1, 1) := by decide +kernel
theorem d_law_454 : decode code 454 = .ok (.iadd, 1) := by decide +kernel
theorem d_law_455 : decode code 455 = .ok (.iaload, 1) := by decide +kernel
theorem d_law_456 : decode code 456 = .ok (.aload_n 0, 1) := by decide +kernel
theorem d_law_457 : decode code 457 = .ok (.iload_n 3, 1) := by decide +kernel
theorem d_law_458 : decode code 458 = .ok (.iconst 2, 1) := by decide +kernel
theorem d_law_459 : decode code 459 = .ok (.iadd, 1) := by decide +kernel
theorem d_law_460 : decode code 460 = .ok (.iaload, 1) := by decide +kernel
theorem d_law_461 : decode code 461 = .ok (.aload_n 0, 1) := by decide +kernel
theorem d_law_462 : decode code 462 = .ok (.iload_n 3, 1) := by decide +kernel
theorem d_law_463 : decode code 463 = .ok (.iconst 3, 1) := by decide +kernel
theorem d_law_464 : decode code 464 = .ok (.iadd, 1) := by decide +kernel
theorem d_law_465 : decode code 465 = .ok (.iaload, 1) := by decide +kernel
theorem d_law_466 : decode code 466 = .ok (.invokevirtual 57, 3) := by decide +kernel
theorem d_law_469 : decode code 469 = .ok (.if_icmp .eq 816, 3) := by decide +kernel
theorem d_law_472 : decode code 472 = .ok (.iconst 0, 1) := by decide +kernel
theorem d_law_473 : decode code 473 = .ok (.ireturn, 1) := by decide +kernel
theorem d_law_474 : decode code 474 = .ok (.aload_n 1, 1) := by decide +kernel
theorem d_law_475 : decode code 475 = .ok (.aload_n 0, 1) := by decide +kernel
theorem d_law_476 : decode code 476 = .ok (.iload_n 3, 1) := by decide +kernel
theorem d_law_477 : decode code 477 = .ok (.iconst 1, 1) := by decide +kernel
theorem d_law_478 : decode code 478 = .ok (.iadd, 1) := by decide +kernel
theorem d_law_479 : decode code 479 = .ok (.iaload, 1) := by decide +kernel
theorem d_law_480 : decode code 480 = .ok (.aload_n 0, 1) := by decide +kernel
theorem d_law_481 : decode code 481 = .ok (.iload_n 3, 1) := by decide +kernel
theorem d_law_482 : decode code 482 = .ok (.iconst 2, 1) := by decide +kernel
theorem d_law_483 : decode code 483 = .ok (.iadd, 1) := by decide +kernel
theorem d_law_484 : decode code 484 = .ok (.iaload, 1) := by decide +kernel
theorem d_law_485 : decode code 485 = .ok (.invokevirtual 58, 3) := by decide +kernel
theorem d_law_488 : decode code 488 = .ok (.aload_n 2, 1) := by decide +kernel
theorem d_law_489 : decode code 489 = .ok (.aload_n 0, 1) := by decide +kernel
theorem d_law_490 : decode code 490 = .ok (.iload_n 3, 1) := by decide +kernel
theorem d_law_491 : decode code 491 = .ok (.iconst 1, 1) := by decide +kernel
theorem d_law_492 : decode code 492 = .ok (.iadd, 1) := by decide +kernel
theorem d_law_493 : decode code 493 = .ok (.iaload, 1) := by decide +kernel
theorem d_law_494 : decode code 494 = .ok (.aload_n 0, 1) := by decide +kernel
theorem d_law_495 : decode code 495 = .ok (.iload_n 3, 1) := by decide +kernel
theorem d_law_496 : decode code 496 = .ok (.iconst 2, 1) := by decide +kernel
theorem d_law_497 : decode code 497 = .ok (.iadd, 1) := by decide +kernel
theorem d_law_498 : decode code 498 = .ok (.iaload, 1) := by decide +kernel
theorem d_law_499 : decode code 499 = .ok (.invokevirtual 61, 3) := by decide +kernel
theorem d_law_502 : decode code 502 = .ok (.if_icmp .eq 783, 3) := by decide +kernel
theorem d_law_505 : decode code 505 = .ok (.iconst 0, 1) := by decide +kernel
theorem d_law_506 : decode code 506 = .ok (.ireturn, 1) := by decide +kernel
theorem d_law_507 : decode code 507 = .ok (.aload_n 1, 1) := by decide +kernel
theorem d_law_508 : decode code 508 = .ok (.aload_n 0, 1) := by decide +kernel
theorem d_law_509 : decode code 509 = .ok (.iload_n 3, 1) := by decide +kernel
theorem d_law_510 : decode code 510 = .ok (.iconst 1, 1) := by decide +kernel
theorem d_law_511 : decode code 511 = .ok (.iadd, 1) := by decide +kernel
theorem d_law_512 : decode code 512 = .ok (.iaload, 1) := by decide +kernel
theorem d_law_513 : decode code 513 = .ok (.aload_n 0, 1) := by decide +kernel
theorem d_law_514 : decode code 514 = .ok (.iload_n 3, 1) := by decide +kernel
theorem d_law_515 : decode code 515 = .ok (.iconst 2, 1) := by decide +kernel
theorem d_law_516 : decode code 516 = .ok (.iadd, 1) := by decide +kernel
theorem d_law_517 : decode code 517 = .ok (.iaload, 1) := by decide +kernel
theorem d_law_518 : decode code 518 = .ok (.invokevirtual 62, 3) := by decide +kernel
theorem d_law_521 : decode code 521 = .ok (.aload_n 2, 1) := by decide +kernel
theorem d_law_522 : decode code 522 = .ok (.aload_n 0, 1) := by decide +kernel
theorem d_law_523 : decode code 523 = .ok (.iload_n 3, 1) := by decide +kernel
theorem d_law_524 : decode code 524 = .ok (.iconst 1, 1) := by decide +kernel
theorem d_law_525 : decode code 525 = .ok (.iadd, 1) := by decide +kernel
theorem d_law_526 : decode code 526 = .ok (.iaload, 1) := by decide +kernel
theorem d_law_527 : decode code 527 = .ok (.aload_n 0, 1) := by decide +kernel
theorem d_law_528 : decode code 528 = .ok (.iload_n 3, 1) := by decide +kernel
theorem d_law_529 : decode code 529 = .ok (.iconst 2, 1) := by decide +kernel
theorem d_law_530 : decode code 530 = .ok (.iadd, 1) := by decide +kernel
theorem d_law_531 : decode code 531 = .ok (.iaload, 1) := by decide +kernel
theorem d_law_532 : decode code 532 = .ok (.invokevirtual 65, 3) := by decide +kernel
theorem d_law_535 : decode code 535 = .ok (.if_icmp .eq 750, 3) := by decide +kernel
theorem d_law_538 : decode code 538 = .ok (.iconst 0, 1) := by decide +kernel
theorem d_law_539 : decode code 539 = .ok (.ireturn, 1) := by decide +kernel
theorem d_law_540 : decode code 540 = .ok (.aload_n 1, 1) := by decide +kernel
theorem d_law_541 : decode code 541 = .ok (.aload_n 0, 1) := by decide +kernel
theorem d_law_542 : decode code 542 = .ok (.iload_n 3, 1) := by decide +kernel
theorem d_law_543 : decode code 543 = .ok (.iconst 1, 1) := by decide +kernel
theorem d_law_544 : decode code 544 = .ok (.iadd, 1) := by decide +kernel
theorem d_law_545 : decode code 545 = .ok (.iaload, 1) := by decide +kernel
theorem d_law_546 : decode code 546 = .ok (.aload_n 0, 1) := by decide +kernel
theorem d_law_547 : decode code 547 = .ok (.iload_n 3, 1) := by decide +kernel
theorem d_law_548 : decode code 548 = .ok (.iconst 2, 1) := by decide +kernel
theorem d_law_549 : decode code 549 = .ok (.iadd, 1) := by decide +kernel
theorem d_law_550 : decode code 550 = .ok (.iaload, 1) := by decide +kernel
theorem d_law_551 : decode code 551 = .ok (.invokevirtual 66, 3) := by decide +kernel
theorem d_law_554 : decode code 554 = .ok (.aload_n 2, 1) := by decide +kernel
theorem d_law_555 : decode code 555 = .ok (.aload_n 0, 1) := by decide +kernel
theorem d_law_556 : decode code 556 = .ok (.iload_n 3, 1) := by decide +kernel
theorem d_law_557 : decode code 557 = .ok (.iconst 1, 1) := by decide +kernel
theorem d_law_558 : decode code 558 = .ok (.iadd, 1) := by decide +kernel
theorem d_law_559 : decode code 559 = .ok (.iaload, 1) := by decide +kernel
theorem d_law_560 : decode code 560 = .ok (.aload_n 0, 1) := by decide +kernel
theorem d_law_561 : decode code 561 = .ok (.iload_n 3, 1) := by decide +kernel
theorem d_law_562 : decode code 562 = .ok (.iconst 2, 1) := by decide +kernel
theorem d_law_563 : decode code 563 = .ok (.iadd, 1) := by decide +kernel
theorem d_law_564 : decode code 564 = .ok (.iaload, 1) := by decide +kernel
theorem d_law_565 : decode code 565 = .ok (.invokevirtual 69, 3) := by decide +kernel
theorem d_law_568 : decode code 568 = .ok (.if_icmp .eq 717, 3) := by decide +kernel
theorem d_law_571 : decode code 571 = .ok (.iconst 0, 1) := by decide +kernel
theorem d_law_572 : decode code 572 = .ok (.ireturn, 1) := by decide +kernel
theorem d_law_573 : decode code 573 = .ok (.aload_n 1, 1) := by decide +kernel
theorem d_law_574 : decode code 574 = .ok (.aload_n 0, 1) := by decide +kernel
theorem d_law_575 : decode code 575 = .ok (.iload_n 3, 1) := by decide +kernel
theorem d_law_576 : decode code 576 = .ok (.iconst 1, 1) := by decide +kernel
theorem d_law_577 : decode code 577 = .ok (.iadd, 1) := by decide +kernel
theorem d_law_578 : decode code 578 = .ok (.iaload, 1) := by decide +kernel
theorem d_law_579 : decode code 579 = .ok (.invokevirtual 70, 3) := by decide +kernel
theorem d_law_582 : decode code 582 = .ok (.aload_n 2, 1) := by decide +kernel
theorem d_law_583 : decode code 583 = .ok (.aload_n 0, 1) := by decide +kernel
theorem d_law_584 : decode code 584 = .ok (.iload_n 3, 1) := by decide +kernel
theorem d_law_585 : decode code 585 = .ok (.iconst 1, 1) := by decide +kernel
theorem d_law_586 : decode code 586 = .ok (.iadd, 1) := by decide +kernel
theorem d_law_587 : decode code 587 = .ok (.iaload, 1) := by decide +kernel
theorem d_law_588 : decode code 588 = .ok (.invokevirtual 73, 3) := by decide +kernel
theorem d_law_591 : decode code 591 = .ok (.if_icmp .eq 694, 3) := by decide +kernel
theorem d_law_594 : decode code 594 = .ok (.iconst 0, 1) := by decide +kernel
theorem d_law_595 : decode code 595 = .ok (.ireturn, 1) := by decide +kernel
theorem d_law_596 : decode code 596 = .ok (.aload_n 1, 1) := by decide +kernel
theorem d_law_597 : decode code 597 = .ok (.aload_n 0, 1) := by decide +kernel
theorem d_law_598 : decode code 598 = .ok (.iload_n 3, 1) := by decide +kernel
theorem d_law_599 : decode code 599 = .ok (.iconst 1, 1) := by decide +kernel
theorem d_law_600 : decode code 600 = .ok (.iadd, 1) := by decide +kernel
theorem d_law_601 : decode code 601 = .ok (.iaload, 1) := by decide +kernel
theorem d_law_602 : decode code 602 = .ok (.invokevirtual 74, 3) := by decide +kernel
theorem d_law_605 : decode code 605 = .ok (.aload_n 2, 1) := by decide +kernel
theorem d_law_606 : decode code 606 = .ok (.aload_n 0, 1) := by decide +kernel
theorem d_law_607 : decode code 607 = .ok (.iload_n 3, 1) := by decide +kernel
theorem d_law_608 : decode code 608 = .ok (.iconst 1, 1) := by decide +kernel
theorem d_law_609 : decode code 609 = .ok (.iadd, 1) := by decide +kernel
theorem d_law_610 : decode code 610 = .ok (.iaload, 1) := by decide +kernel
theorem d_law_611 : decode code 611 = .ok (.invokevirtual 77, 3) := by decide +kernel
theorem d_law_614 : decode code 614 = .ok (.if_icmp .eq 671, 3) := by decide +kernel
theorem d_law_617 : decode code 617 = .ok (.iconst 0, 1) := by decide +kernel
theorem d_law_618 : decode code 618 = .ok (.ireturn, 1) := by decide +kernel
theorem d_law_619 : decode code 619 = .ok (.aload_n 1, 1) := by decide +kernel
theorem d_law_620 : decode code 620 = .ok (.aload_n 0, 1) := by decide +kernel
theorem d_law_621 : decode code 621 = .ok (.iload_n 3, 1) := by decide +kernel
theorem d_law_622 : decode code 622 = .ok (.iconst 1, 1) := by decide +kernel
theorem d_law_623 : decode code 623 = .ok (.iadd, 1) := by decide +kernel
theorem d_law_624 : decode code 624 = .ok (.iaload, 1) := by decide +kernel
theorem d_law_625 : decode code 625 = .ok (.invokevirtual 78, 3) := by decide +kernel
theorem d_law_628 : decode code 628 = .ok (.aload_n 2, 1) := by decide +kernel
theorem d_law_629 : decode code 629 = .ok (.aload_n 0, 1) := by decide +kernel
theorem d_law_630 : decode code 630 = .ok (.iload_n 3, 1) := by decide +kernel
theorem d_law_631 : decode code 631 = .ok (.iconst 1, 1) := by decide +kernel
theorem d_law_632 : decode code 632 = .ok (.iadd, 1) := by decide +kernel
theorem d_law_633 : decode code 633 = .ok (.iaload, 1) := by decide +kernel
theorem d_law_634 : decode code 634 = .ok (.invokevirtual 81, 3) := by decide +kernel
theorem d_law_637 : decode code 637 = .ok (.if_icmp .eq 648, 3) := by decide +kernel
theorem d_law_640 : decode code 640 = .ok (.iconst 0, 1) := by decide +kernel
theorem d_law_641 : decode code 641 = .ok (.ireturn, 1) := by decide +kernel
theorem d_law_642 : decode code 642 = .ok (.aload_n 1, 1) := by decide +kernel
theorem d_law_643 : decode code 643 = .ok (.aload_n 0, 1) := by decide +kernel
theorem d_law_644 : decode code 644 = .ok (.iload_n 3, 1) := by decide +kernel
theorem d_law_645 : decode code 645 = .ok (.iconst 1, 1) := by decide +kernel
theorem d_law_646 : decode code 646 = .ok (.iadd, 1) := by decide +kernel
theorem d_law_647 : decode code 647 = .ok (.iaload, 1) := by decide +kernel
theorem d_law_648 : decode code 648 = .ok (.invokevirtual 82, 3) := by decide +kernel
theorem d_law_651 : decode code 651 = .ok (.aload_n 2, 1) := by decide +kernel
theorem d_law_652 : decode code 652 = .ok (.aload_n 0, 1) := by decide +kernel
theorem d_law_653 : decode code 653 = .ok (.iload_n 3, 1) := by decide +kernel
theorem d_law_654 : decode code 654 = .ok (.iconst 1, 1) := by decide +kernel
theorem d_law_655 : decode code 655 = .ok (.iadd, 1) := by decide +kernel
theorem d_law_656 : decode code 656 = .ok (.iaload, 1) := by decide +kernel
theorem d_law_657 : decode code 657 = .ok (.invokevirtual 85, 3) := by decide +kernel
theorem d_law_660 : decode code 660 = .ok (.if_icmp .eq 625, 3) := by decide +kernel
theorem d_law_663 : decode code 663 = .ok (.iconst 0, 1) := by decide +kernel
theorem d_law_664 : decode code 664 = .ok (.ireturn, 1) := by decide +kernel
theorem d_law_665 : decode code 665 = .ok (.aload_n 1, 1) := by decide +kernel
theorem d_law_666 : decode code 666 = .ok (.aload_n 0, 1) := by decide +kernel
theorem d_law_667 : decode code 667 = .ok (.iload_n 3, 1) := by decide +kernel
theorem d_law_668 : decode code 668 = .ok (.iconst 1, 1) := by decide +kernel
theorem d_law_669 : decode code 669 = .ok (.iadd, 1) := by decide +kernel
theorem d_law_670 : decode code 670 = .ok (.iaload, 1) := by decide +kernel
theorem d_law_671 : decode code 671 = .ok (.aload_n 0, 1) := by decide +kernel
theorem d_law_672 : decode code 672 = .ok (.iload_n 3, 1) := by decide +kernel
theorem d_law_673 : decode code 673 = .ok (.iconst 2, 1) := by decide +kernel
theorem d_law_674 : decode code 674 = .ok (.iadd, 1) := by decide +kernel
theorem d_law_675 : decode code 675 = .ok (.iaload, 1) := by decide +kernel
theorem d_law_676 : decode code 676 = .ok (.aload_n 0, 1) := by decide +kernel
theorem d_law_677 : decode code 677 = .ok (.iload_n 3, 1) := by decide +kernel
theorem d_law_678 : decode code 678 = .ok (.iconst 3, 1) := by decide +kernel
theorem d_law_679 : decode code 679 = .ok (.iadd, 1) := by decide +kernel
theorem d_law_680 : decode code 680 = .ok (.iaload, 1) := by decide +kernel
theorem d_law_681 : decode code 681 = .ok (.aload_n 0, 1) := by decide +kernel
theorem d_law_682 : decode code 682 = .ok (.iload_n 3, 1) := by decide +kernel
theorem d_law_683 : decode code 683 = .ok (.iconst 4, 1) := by decide +kernel
theorem d_law_684 : decode code 684 = .ok (.iadd, 1) := by decide +kernel
theorem d_law_685 : decode code 685 = .ok (.iaload, 1) := by decide +kernel
theorem d_law_686 : decode code 686 = .ok (.invokevirtual 86, 3) := by decide +kernel
theorem d_law_689 : decode code 689 = .ok (.aload_n 2, 1) := by decide +kernel
theorem d_law_690 : decode code 690 = .ok (.aload_n 0, 1) := by decide +kernel
theorem d_law_691 : decode code 691 = .ok (.iload_n 3, 1) := by decide +kernel
theorem d_law_692 : decode code 692 = .ok (.iconst 1, 1) := by decide +kernel
theorem d_law_693 : decode code 693 = .ok (.iadd, 1) := by decide +kernel
theorem d_law_694 : decode code 694 = .ok (.iaload, 1) := by decide +kernel
theorem d_law_695 : decode code 695 = .ok (.aload_n 0, 1) := by decide +kernel
theorem d_law_696 : decode code 696 = .ok (.iload_n 3, 1) := by decide +kernel
theorem d_law_697 : decode code 697 = .ok (.iconst 2, 1) := by decide +kernel
theorem d_law_698 : decode code 698 = .ok (.iadd, 1) := by decide +kernel
theorem d_law_699 : decode code 699 = .ok (.iaload, 1) := by decide +kernel
theorem d_law_700 : decode code 700 = .ok (.aload_n 0, 1) := by decide +kernel
theorem d_law_701 : decode code 701 = .ok (.iload_n 3, 1) := by decide +kernel
theorem d_law_702 : decode code 702 = .ok (.iconst 3, 1) := by decide +kernel
theorem d_law_703 : decode code 703 = .ok (.iadd, 1) := by decide +kernel
theorem d_law_704 : decode code 704 = .ok (.iaload, 1) := by decide +kernel
theorem d_law_705 : decode code 705 = .ok (.aload_n 0, 1) := by decide +kernel
theorem d_law_706 : decode code 706 = .ok (.iload_n 3, 1) := by decide +kernel
theorem d_law_707 : decode code 707 = .ok (.iconst 4, 1) := by decide +kernel
theorem d_law_708 : decode code 708 = .ok (.iadd, 1) := by decide +kernel
theorem d_law_709 : decode code 709 = .ok (.iaload, 1) := by decide +kernel
theorem d_law_710 : decode code 710 = .ok (.invokevirtual 89, 3) := by decide +kernel
theorem d_law_713 : decode code 713 = .ok (.if_icmp .eq 572, 3) := by decide +kernel
theorem d_law_716 : decode code 716 = .ok (.iconst 0, 1) := by decide +kernel
theorem d_law_717 : decode code 717 = .ok (.ireturn, 1) := by decide +kernel
theorem d_law_718 : decode code 718 = .ok (.aload_n 1, 1) := by decide +kernel
theorem d_law_719 : decode code 719 = .ok (.aload_n 0, 1) := by decide +kernel
theorem d_law_720 : decode code 720 = .ok (.iload_n 3, 1) := by decide +kernel
theorem d_law_721 : decode code 721 = .ok (.iconst 1, 1) := by decide +kernel
theorem d_law_722 : decode code 722 = .ok (.iadd, 1) := by decide +kernel
theorem d_law_723 : decode code 723 = .ok (.iaload, 1) := by decide +kernel
theorem d_law_724 : decode code 724 = .ok (.aload_n 0, 1) := by decide +kernel
theorem d_law_725 : decode code 725 = .ok (.iload_n 3, 1) := by decide +kernel
theorem d_law_726 : decode code 726 = .ok (.iconst 2, 1) := by decide +kernel
theorem d_law_727 : decode code 727 = .ok (.iadd, 1) := by decide +kernel
theorem d_law_728 : decode code 728 = .ok (.iaload, 1) := by decide +kernel
theorem d_law_729 : decode code 729 = .ok (.aload_n 0, 1) := by decide +kernel
theorem d_law_730 : decode code 730 = .ok (.iload_n 3, 1) := by decide +kernel
theorem d_law_731 : decode code 731 = .ok (.iconst 3, 1) := by decide +kernel
theorem d_law_732 : decode code 732 = .ok (.iadd, 1) := by decide +kernel
theorem d_law_733 : decode code 733 = .ok (.iaload, 1) := by decide +kernel
theorem d_law_734 : decode code 734 = .ok (.invokevirtual 90, 3) := by decide +kernel
theorem d_law_737 : decode code 737 = .ok (.aload_n 2, 1) := by decide +kernel
theorem d_law_738 : decode code 738 = .ok (.aload_n 0, 1) := by decide +kernel
theorem d_law_739 : decode code 739 = .ok (.iload_n 3, 1) := by decide +kernel
theorem d_law_740 : decode code 740 = .ok (.iconst 1, 1) := by decide +kernel
theorem d_law_741 : decode code 741 = .ok (.iadd, 1) := by decide +kernel
theorem d_law_742 : decode code 742 = .ok (.iaload, 1) := by decide +kernel
theorem d_law_743 : decode code 743 = .ok (.aload_n 0, 1) := by decide +kernel
theorem d_law_744 : decode code 744 = .ok (.iload_n 3, 1) := by decide +kernel
theorem d_law_745 : decode code 745 = .ok (.iconst 2, 1) := by decide +kernel
theorem d_law_746 : decode code 746 = .ok (.iadd, 1) := by decide +kernel
theorem d_law_747 : decode code 747 = .ok (.iaload, 1) := by decide +kernel
theorem d_law_748 : decode code 748 = .ok (.aload_n 0, 1) := by decide +kernel
theorem d_law_749 : decode code 749 = .ok (.iload_n 3, 1) := by decide +kernel
theorem d_law_750 : decode code 750 = .ok (.iconst 3, 1) := by decide +kernel
theorem d_law_751 : decode code 751 = .ok (.iadd, 1) := by decide +kernel
theorem d_law_752 : decode code 752 = .ok (.iaload, 1) := by decide +kernel
theorem d_law_753 : decode code 753 = .ok (.invokevirtual 93, 3) := by decide +kernel
theorem d_law_756 : decode code 756 = .ok (.if_icmp .eq 529, 3) := by decide +kernel
theorem d_law_759 : decode code 759 = .ok (.iconst 0, 1) := by decide +kernel
theorem d_law_760 : decode code 760 = .ok (.ireturn, 1) := by decide +kernel
theorem d_law_761 : decode code 761 = .ok (.aload_n 1, 1) := by decide +kernel
theorem d_law_762 : decode code 762 = .ok (.aload_n 0, 1) := by decide +kernel
theorem d_law_763 : decode code 763 = .ok (.iload_n 3, 1) := by decide +kernel
theorem d_law_764 : decode code 764 = .ok (.iconst 1, 1) := by decide +kernel
theorem d_law_765 : decode code 765 = .ok (.iadd, 1) := by decide +kernel
theorem d_law_766 : decode code 766 = .ok (.iaload, 1) := by decide +kernel
theorem d_law_767 : decode code 767 = .ok (.aload_n 0, 1) := by decide +kernel
theorem d_law_768 : decode code 768 = .ok (.iload_n 3, 1) := by decide +kernel
theorem d_law_769 : decode code 769 = .ok (.iconst 2, 1) := by decide +kernel
theorem d_law_770 : decode code 770 = .ok (.iadd, 1) := by decide +kernel
theorem d_law_771 : decode code 771 = .ok (.iaload, 1) := by decide +kernel
theorem d_law_772 : decode code 772 = .ok (.invokevirtual 94, 3) := by decide +kernel
theorem d_law_775 : decode code 775 = .ok (.aload_n 2, 1) := by decide +kernel
theorem d_law_776 : decode code 776 = .ok (.aload_n 0, 1) := by decide +kernel
theorem d_law_777 : decode code 777 = .ok (.iload_n 3, 1) := by decide +kernel
theorem d_law_778 : decode code 778 = .ok (.iconst 1, 1) := by decide +kernel
theorem d_law_779 : decode code 779 = .ok (.iadd, 1) := by decide +kernel
theorem d_law_780 : decode code 780 = .ok (.iaload, 1) := by decide +kernel
theorem d_law_781 : decode code 781 = .ok (.aload_n 0, 1) := by decide +kernel
theorem d_law_782 : decode code 782 = .ok (.iload_n 3, 1) := by decide +kernel
theorem d_law_783 : decode code 783 = .ok (.iconst 2, 1) := by decide +kernel
theorem d_law_784 : decode code 784 = .ok (.iadd, 1) := by decide +kernel
theorem d_law_785 : decode code 785 = .ok (.iaload, 1) := by decide +kernel
theorem d_law_786 : decode code 786 = .ok (.invokevirtual 98, 3) := by decide +kernel
theorem d_law_789 : decode code 789 = .ok (.lcmp, 1) := by decide +kernel
theorem d_law_790 : decode code 790 = .ok (.ifCond .eq 495, 3) := by decide +kernel
theorem d_law_793 : decode code 793 = .ok (.iconst 0, 1) := by decide +kernel
theorem d_law_794 : decode code 794 = .ok (.ireturn, 1) := by decide +kernel
theorem d_law_795 : decode code 795 = .ok (.aload_n 1, 1) := by decide +kernel
theorem d_law_796 : decode code 796 = .ok (.aload_n 0, 1) := by decide +kernel
theorem d_law_797 : decode code 797 = .ok (.iload_n 3, 1) := by decide +kernel
theorem d_law_798 : decode code 798 = .ok (.iconst 1, 1) := by decide +kernel
theorem d_law_799 : decode code 799 = .ok (.iadd, 1) := by decide +kernel
theorem d_law_800 : decode code 800 = .ok (.iaload, 1) := by decide +kernel
theorem d_law_801 : decode code 801 = .ok (.aload_n 0, 1) := by decide +kernel
theorem d_law_802 : decode code 802 = .ok (.iload_n 3, 1) := by decide +kernel
theorem d_law_803 : decode code 803 = .ok (.iconst 2, 1) := by decide +kernel
theorem d_law_804 : decode code 804 = .ok (.iadd, 1) := by decide +kernel
theorem d_law_805 : decode code 805 = .ok (.iaload, 1) := by decide +kernel
theorem d_law_806 : decode code 806 = .ok (.invokevirtual 99, 3) := by decide +kernel
theorem d_law_809 : decode code 809 = .ok (.aload_n 2, 1) := by decide +kernel
theorem d_law_810 : decode code 810 = .ok (.aload_n 0, 1) := by decide +kernel
theorem d_law_811 : decode code 811 = .ok (.iload_n 3, 1) := by decide +kernel
theorem d_law_812 : decode code 812 = .ok (.iconst 1, 1) := by decide +kernel
theorem d_law_813 : decode code 813 = .ok (.iadd, 1) := by decide +kernel
theorem d_law_814 : decode code 814 = .ok (.iaload, 1) := by decide +kernel
theorem d_law_815 : decode code 815 = .ok (.aload_n 0, 1) := by decide +kernel
theorem d_law_816 : decode code 816 = .ok (.iload_n 3, 1) := by decide +kernel
theorem d_law_817 : decode code 817 = .ok (.iconst 2, 1) := by decide +kernel
theorem d_law_818 : decode code 818 = .ok (.iadd, 1) := by decide +kernel
theorem d_law_819 : decode code 819 = .ok (.iaload, 1) := by decide +kernel
theorem d_law_820 : decode code 820 = .ok (.invokevirtual 102, 3) := by decide +kernel
theorem d_law_823 : decode code 823 = .ok (.lcmp, 1) := by decide +kernel
theorem d_law_824 : decode code 824 = .ok (.ifCond .eq 461, 3) := by decide +kernel
theorem d_law_827 : decode code 827 = .ok (.iconst 0, 1) := by decide +kernel
theorem d_law_828 : decode code 828 = .ok (.ireturn, 1) := by decide +kernel
theorem d_law_829 : decode code 829 = .ok (.aload_n 1, 1) := by decide +kernel
theorem d_law_830 : decode code 830 = .ok (.aload_n 0, 1) := by decide +kernel
theorem d_law_831 : decode code 831 = .ok (.iload_n 3, 1) := by decide +kernel
theorem d_law_832 : decode code 832 = .ok (.iconst 1, 1) := by decide +kernel
theorem d_law_833 : decode code 833 = .ok (.iadd, 1) := by decide +kernel
theorem d_law_834 : decode code 834 = .ok (.iaload, 1) := by decide +kernel
theorem d_law_835 : decode code 835 = .ok (.aload_n 0, 1) := by decide +kernel
theorem d_law_836 : decode code 836 = .ok (.iload_n 3, 1) := by decide +kernel
theorem d_law_837 : decode code 837 = .ok (.iconst 2, 1) := by decide +kernel
theorem d_law_838 : decode code 838 = .ok (.iadd, 1) := by decide +kernel
theorem d_law_839 : decode code 839 = .ok (.iaload, 1) := by decide +kernel
theorem d_law_840 : decode code 840 = .ok (.ifCond .eq 7, 3) := by decide +kernel
theorem d_law_843 : decode code 843 = .ok (.iconst 1, 1) := by decide +kernel
theorem d_law_844 : decode code 844 = .ok (.goto 4, 3) := by decide +kernel
theorem d_law_847 : decode code 847 = .ok (.iconst 0, 1) := by decide +kernel
theorem d_law_848 : decode code 848 = .ok (.invokevirtual 103, 3) := by decide +kernel
theorem d_law_851 : decode code 851 = .ok (.aload_n 2, 1) := by decide +kernel
theorem d_law_852 : decode code 852 = .ok (.aload_n 0, 1) := by decide +kernel
theorem d_law_853 : decode code 853 = .ok (.iload_n 3, 1) := by decide +kernel
theorem d_law_854 : decode code 854 = .ok (.iconst 1, 1) := by decide +kernel
theorem d_law_855 : decode code 855 = .ok (.iadd, 1) := by decide +kernel
theorem d_law_856 : decode code 856 = .ok (.iaload, 1) := by decide +kernel
theorem d_law_857 : decode code 857 = .ok (.aload_n 0, 1) := by decide +kernel
theorem d_law_858 : decode code 858 = .ok (.iload_n 3, 1) := by decide +kernel
theorem d_law_859 : decode code 859 = .ok (.iconst 2, 1) := by decide +kernel
theorem d_law_860 : decode code 860 = .ok (.iadd, 1) := by decide +kernel
theorem d_law_861 : decode code 861 = .ok (.iaload, 1) := by decide +kernel
theorem d_law_862 : decode code 862 = .ok (.ifCond .eq 7, 3) := by decide +kernel
theorem d_law_865 : decode code 865 = .ok (.iconst 1, 1) := by decide +kernel
theorem d_law_866 : decode code 866 = .ok (.goto 4, 3) := by decide +kernel
theorem d_law_869 : decode code 869 = .ok (.iconst 0, 1) := by decide +kernel
theorem d_law_870 : decode code 870 = .ok (.invokevirtual 107, 3) := by decide +kernel
theorem d_law_873 : decode code 873 = .ok (.if_icmp .eq 412, 3) := by decide +kernel
theorem d_law_876 : decode code 876 = .ok (.iconst 0, 1) := by decide +kernel
theorem d_law_877 : decode code 877 = .ok (.ireturn, 1) := by decide +kernel
theorem d_law_878 : decode code 878 = .ok (.aload_n 1, 1) := by decide +kernel
theorem d_law_879 : decode code 879 = .ok (.invokevirtual 108, 3) := by decide +kernel
theorem d_law_882 : decode code 882 = .ok (.aload_n 2, 1) := by decide +kernel
theorem d_law_883 : decode code 883 = .ok (.invokevirtual 111, 3) := by decide +kernel
theorem d_law_886 : decode code 886 = .ok (.if_icmp .eq 399, 3) := by decide +kernel
theorem d_law_889 : decode code 889 = .ok (.iconst 0, 1) := by decide +kernel
theorem d_law_890 : decode code 890 = .ok (.ireturn, 1) := by decide +kernel
theorem d_law_891 : decode code 891 = .ok (.aload_n 1, 1) := by decide +kernel
theorem d_law_892 : decode code 892 = .ok (.aload_n 0, 1) := by decide +kernel
theorem d_law_893 : decode code 893 = .ok (.iload_n 3, 1) := by decide +kernel
theorem d_law_894 : decode code 894 = .ok (.iconst 1, 1) := by decide +kernel
theorem d_law_895 : decode code 895 = .ok (.iadd, 1) := by decide +kernel
theorem d_law_896 : decode code 896 = .ok (.iaload, 1) := by decide +kernel
theorem d_law_897 : decode code 897 = .ok (.aload_n 0, 1) := by decide +kernel
theorem d_law_898 : decode code 898 = .ok (.iload_n 3, 1) := by decide +kernel
theorem d_law_899 : decode code 899 = .ok (.iconst 2, 1) := by decide +kernel
theorem d_law_900 : decode code 900 = .ok (.iadd, 1) := by decide +kernel
theorem d_law_901 : decode code 901 = .ok (.iaload, 1) := by decide +kernel
theorem d_law_902 : decode code 902 = .ok (.invokevirtual 112, 3) := by decide +kernel
theorem d_law_905 : decode code 905 = .ok (.aload_n 2, 1) := by decide +kernel
theorem d_law_906 : decode code 906 = .ok (.aload_n 0, 1) := by decide +kernel
theorem d_law_907 : decode code 907 = .ok (.iload_n 3, 1) := by decide +kernel
theorem d_law_908 : decode code 908 = .ok (.iconst 1, 1) := by decide +kernel
theorem d_law_909 : decode code 909 = .ok (.iadd, 1) := by decide +kernel
theorem d_law_910 : decode code 910 = .ok (.iaload, 1) := by decide +kernel
theorem d_law_911 : decode code 911 = .ok (.aload_n 0, 1) := by decide +kernel
theorem d_law_912 : decode code 912 = .ok (.iload_n 3, 1) := by decide +kernel
theorem d_law_913 : decode code 913 = .ok (.iconst 2, 1) := by decide +kernel
theorem d_law_914 : decode code 914 = .ok (.iadd, 1) := by decide +kernel
theorem d_law_915 : decode code 915 = .ok (.iaload, 1) := by decide +kernel
theorem d_law_916 : decode code 916 = .ok (.invokevirtual 115, 3) := by decide +kernel
theorem d_law_919 : decode code 919 = .ok (.if_icmp .eq 366, 3) := by decide +kernel
theorem d_law_922 : decode code 922 = .ok (.iconst 0, 1) := by decide +kernel
theorem d_law_923 : decode code 923 = .ok (.ireturn, 1) := by decide +kernel
theorem d_law_924 : decode code 924 = .ok (.aload_n 1, 1) := by decide +kernel
theorem d_law_925 : decode code 925 = .ok (.invokevirtual 116, 3) := by decide +kernel
theorem d_law_928 : decode code 928 = .ok (.aload_n 2, 1) := by decide +kernel
theorem d_law_929 : decode code 929 = .ok (.invokevirtual 119, 3) := by decide +kernel
theorem d_law_932 : decode code 932 = .ok (.if_icmp .eq 353, 3) := by decide +kernel
theorem d_law_935 : decode code 935 = .ok (.iconst 0, 1) := by decide +kernel
theorem d_law_936 : decode code 936 = .ok (.ireturn, 1) := by decide +kernel
theorem d_law_937 : decode code 937 = .ok (.aload_n 1, 1) := by decide +kernel
theorem d_law_938 : decode code 938 = .ok (.invokevirtual 120, 3) := by decide +kernel
theorem d_law_941 : decode code 941 = .ok (.aload_n 2, 1) := by decide +kernel
theorem d_law_942 : decode code 942 = .ok (.invokevirtual 123, 3) := by decide +kernel
theorem d_law_945 : decode code 945 = .ok (.if_icmp .eq 340, 3) := by decide +kernel
theorem d_law_948 : decode code 948 = .ok (.iconst 0, 1) := by decide +kernel
theorem d_law_949 : decode code 949 = .ok (.ireturn, 1) := by decide +kernel
theorem d_law_950 : decode code 950 = .ok (.aload_n 1, 1) := by decide +kernel
theorem d_law_951 : decode code 951 = .ok (.aload_n 0, 1) := by decide +kernel
theorem d_law_952 : decode code 952 = .ok (.iload_n 3, 1) := by decide +kernel
theorem d_law_953 : decode code 953 = .ok (.iconst 1, 1) := by decide +kernel
theorem d_law_954 : decode code 954 = .ok (.iadd, 1) := by decide +kernel
theorem d_law_955 : decode code 955 = .ok (.iaload, 1) := by decide +kernel
theorem d_law_956 : decode code 956 = .ok (.aload_n 0, 1) := by decide +kernel
theorem d_law_957 : decode code 957 = .ok (.iload_n 3, 1) := by decide +kernel
theorem d_law_958 : decode code 958 = .ok (.iconst 2, 1) := by decide +kernel
theorem d_law_959 : decode code 959 = .ok (.iadd, 1) := by decide +kernel
theorem d_law_960 : decode code 960 = .ok (.iaload, 1) := by decide +kernel
theorem d_law_961 : decode code 961 = .ok (.aload_n 0, 1) := by decide +kernel
theorem d_law_962 : decode code 962 = .ok (.iload_n 3, 1) := by decide +kernel
theorem d_law_963 : decode code 963 = .ok (.iconst 3, 1) := by decide +kernel
theorem d_law_964 : decode code 964 = .ok (.iadd, 1) := by decide +kernel
theorem d_law_965 : decode code 965 = .ok (.iaload, 1) := by decide +kernel
theorem d_law_966 : decode code 966 = .ok (.invokevirtual 124, 3) := by decide +kernel
theorem d_law_969 : decode code 969 = .ok (.aload_n 2, 1) := by decide +kernel
theorem d_law_970 : decode code 970 = .ok (.aload_n 0, 1) := by decide +kernel
theorem d_law_971 : decode code 971 = .ok (.iload_n 3, 1) := by decide +kernel
theorem d_law_972 : decode code 972 = .ok (.iconst 1, 1) := by decide +kernel
theorem d_law_973 : decode code 973 = .ok (.iadd, 1) := by decide +kernel
theorem d_law_974 : decode code 974 = .ok (.iaload, 1) := by decide +kernel
theorem d_law_975 : decode code 975 = .ok (.aload_n 0, 1) := by decide +kernel
theorem d_law_976 : decode code 976 = .ok (.iload_n 3, 1) := by decide +kernel
theorem d_law_977 : decode code 977 = .ok (.iconst 2, 1) := by decide +kernel
theorem d_law_978 : decode code 978 = .ok (.iadd, 1) := by decide +kernel
theorem d_law_979 : decode code 979 = .ok (.iaload, 1) := by decide +kernel
theorem d_law_980 : decode code 980 = .ok (.aload_n 0, 1) := by decide +kernel
theorem d_law_981 : decode code 981 = .ok (.iload_n 3, 1) := by decide +kernel
theorem d_law_982 : decode code 982 = .ok (.iconst 3, 1) := by decide +kernel
theorem d_law_983 : decode code 983 = .ok (.iadd, 1) := by decide +kernel
theorem d_law_984 : decode code 984 = .ok (.iaload, 1) := by decide +kernel
theorem d_law_985 : decode code 985 = .ok (.invokevirtual 127, 3) := by decide +kernel
theorem d_law_988 : decode code 988 = .ok (.if_icmp .eq 297, 3) := by decide +kernel
theorem d_law_991 : decode code 991 = .ok (.iconst 0, 1) := by decide +kernel
theorem d_law_992 : decode code 992 = .ok (.ireturn, 1) := by decide +kernel
theorem d_law_993 : decode code 993 = .ok (.aload_n 1, 1) := by decide +kernel
theorem d_law_994 : decode code 994 = .ok (.aload_n 0, 1) := by decide +kernel
theorem d_law_995 : decode code 995 = .ok (.iload_n 3, 1) := by decide +kernel
theorem d_law_996 : decode code 996 = .ok (.iconst 1, 1) := by decide +kernel
theorem d_law_997 : decode code 997 = .ok (.iadd, 1) := by decide +kernel
theorem d_law_998 : decode code 998 = .ok (.iaload, 1) := by decide +kernel
theorem d_law_999 : decode code 999 = .ok (.invokevirtual 128, 3) := by decide +kernel
theorem d_law_1002 : decode code 1002 = .ok (.aload_n 2, 1) := by decide +kernel
theorem d_law_1003 : decode code 1003 = .ok (.aload_n 0, 1) := by decide +kernel
theorem d_law_1004 : decode code 1004 = .ok (.iload_n 3, 1) := by decide +kernel
theorem d_law_1005 : decode code 1005 = .ok (.iconst 1, 1) := by decide +kernel
theorem d_law_1006 : decode code 1006 = .ok (.iadd, 1) := by decide +kernel
theorem d_law_1007 : decode code 1007 = .ok (.iaload, 1) := by decide +kernel
theorem d_law_1008 : decode code 1008 = .ok (.invokevirtual 131, 3) := by decide +kernel
theorem d_law_1011 : decode code 1011 = .ok (.if_icmp .eq 274, 3) := by decide +kernel
theorem d_law_1014 : decode code 1014 = .ok (.iconst 0, 1) := by decide +kernel
theorem d_law_1015 : decode code 1015 = .ok (.ireturn, 1) := by decide +kernel
theorem d_law_1016 : decode code 1016 = .ok (.aload_n 1, 1) := by decide +kernel
theorem d_law_1017 : decode code 1017 = .ok (.aload_n 0, 1) := by decide +kernel
theorem d_law_1018 : decode code 1018 = .ok (.iload_n 3, 1) := by decide +kernel
theorem d_law_1019 : decode code 1019 = .ok (.iconst 1, 1) := by decide +kernel
theorem d_law_1020 : decode code 1020 = .ok (.iadd, 1) := by decide +kernel
theorem d_law_1021 : decode code 1021 = .ok (.iaload, 1) := by decide +kernel
theorem d_law_1022 : decode code 1022 = .ok (.aload_n 0, 1) := by decide +kernel
theorem d_law_1023 : decode code 1023 = .ok (.iload_n 3, 1) := by decide +kernel
theorem d_law_1024 : decode code 1024 = .ok (.iconst 2, 1) := by decide +kernel
theorem d_law_1025 : decode code 1025 = .ok (.iadd, 1) := by decide +kernel
theorem d_law_1026 : decode code 1026 = .ok (.iaload, 1) := by decide +kernel
theorem d_law_1027 : decode code 1027 = .ok (.invokevirtual 132, 3) := by decide +kernel
theorem d_law_1030 : decode code 1030 = .ok (.aload_n 2, 1) := by decide +kernel
theorem d_law_1031 : decode code 1031 = .ok (.aload_n 0, 1) := by decide +kernel
theorem d_law_1032 : decode code 1032 = .ok (.iload_n 3, 1) := by decide +kernel
theorem d_law_1033 : decode code 1033 = .ok (.iconst 1, 1) := by decide +kernel
theorem d_law_1034 : decode code 1034 = .ok (.iadd, 1) := by decide +kernel
theorem d_law_1035 : decode code 1035 = .ok (.iaload, 1) := by decide +kernel
theorem d_law_1036 : decode code 1036 = .ok (.aload_n 0, 1) := by decide +kernel
theorem d_law_1037 : decode code 1037 = .ok (.iload_n 3, 1) := by decide +kernel
theorem d_law_1038 : decode code 1038 = .ok (.iconst 2, 1) := by decide +kernel
theorem d_law_1039 : decode code 1039 = .ok (.iadd, 1) := by decide +kernel
theorem d_law_1040 : decode code 1040 = .ok (.iaload, 1) := by decide +kernel
theorem d_law_1041 : decode code 1041 = .ok (.invokevirtual 135, 3) := by decide +kernel
theorem d_law_1044 : decode code 1044 = .ok (.if_icmp .eq 241, 3) := by decide +kernel
theorem d_law_1047 : decode code 1047 = .ok (.iconst 0, 1) := by decide +kernel
theorem d_law_1048 : decode code 1048 = .ok (.ireturn, 1) := by decide +kernel
theorem d_law_1049 : decode code 1049 = .ok (.aload_n 1, 1) := by decide +kernel
theorem d_law_1050 : decode code 1050 = .ok (.aload_n 0, 1) := by decide +kernel
theorem d_law_1051 : decode code 1051 = .ok (.iload_n 3, 1) := by decide +kernel
theorem d_law_1052 : decode code 1052 = .ok (.iconst 1, 1) := by decide +kernel
theorem d_law_1053 : decode code 1053 = .ok (.iadd, 1) := by decide +kernel
theorem d_law_1054 : decode code 1054 = .ok (.iaload, 1) := by decide +kernel
theorem d_law_1055 : decode code 1055 = .ok (.invokevirtual 136, 3) := by decide +kernel
theorem d_law_1058 : decode code 1058 = .ok (.aload_n 2, 1) := by decide +kernel
theorem d_law_1059 : decode code 1059 = .ok (.aload_n 0, 1) := by decide +kernel
theorem d_law_1060 : decode code 1060 = .ok (.iload_n 3, 1) := by decide +kernel
theorem d_law_1061 : decode code 1061 = .ok (.iconst 1, 1) := by decide +kernel
theorem d_law_1062 : decode code 1062 = .ok (.iadd, 1) := by decide +kernel
theorem d_law_1063 : decode code 1063 = .ok (.iaload, 1) := by decide +kernel
theorem d_law_1064 : decode code 1064 = .ok (.invokevirtual 139, 3) := by decide +kernel
theorem d_law_1067 : decode code 1067 = .ok (.if_icmp .eq 218, 3) := by decide +kernel
theorem d_law_1070 : decode code 1070 = .ok (.iconst 0, 1) := by decide +kernel
theorem d_law_1071 : decode code 1071 = .ok (.ireturn, 1) := by decide +kernel
theorem d_law_1072 : decode code 1072 = .ok (.aload_n 1, 1) := by decide +kernel
theorem d_law_1073 : decode code 1073 = .ok (.aload_n 0, 1) := by decide +kernel
theorem d_law_1074 : decode code 1074 = .ok (.iload_n 3, 1) := by decide +kernel
theorem d_law_1075 : decode code 1075 = .ok (.iconst 1, 1) := by decide +kernel
theorem d_law_1076 : decode code 1076 = .ok (.iadd, 1) := by decide +kernel
theorem d_law_1077 : decode code 1077 = .ok (.iaload, 1) := by decide +kernel
theorem d_law_1078 : decode code 1078 = .ok (.aload_n 0, 1) := by decide +kernel
theorem d_law_1079 : decode code 1079 = .ok (.iload_n 3, 1) := by decide +kernel
theorem d_law_1080 : decode code 1080 = .ok (.iconst 2, 1) := by decide +kernel
theorem d_law_1081 : decode code 1081 = .ok (.iadd, 1) := by decide +kernel
theorem d_law_1082 : decode code 1082 = .ok (.iaload, 1) := by decide +kernel
theorem d_law_1083 : decode code 1083 = .ok (.aload_n 0, 1) := by decide +kernel
theorem d_law_1084 : decode code 1084 = .ok (.iload_n 3, 1) := by decide +kernel
theorem d_law_1085 : decode code 1085 = .ok (.iconst 3, 1) := by decide +kernel
theorem d_law_1086 : decode code 1086 = .ok (.iadd, 1) := by decide +kernel
theorem d_law_1087 : decode code 1087 = .ok (.iaload, 1) := by decide +kernel
theorem d_law_1088 : decode code 1088 = .ok (.invokevirtual 140, 3) := by decide +kernel
theorem d_law_1091 : decode code 1091 = .ok (.aload_n 2, 1) := by decide +kernel
theorem d_law_1092 : decode code 1092 = .ok (.aload_n 0, 1) := by decide +kernel
theorem d_law_1093 : decode code 1093 = .ok (.iload_n 3, 1) := by decide +kernel
theorem d_law_1094 : decode code 1094 = .ok (.iconst 1, 1) := by decide +kernel
theorem d_law_1095 : decode code 1095 = .ok (.iadd, 1) := by decide +kernel
theorem d_law_1096 : decode code 1096 = .ok (.iaload, 1) := by decide +kernel
theorem d_law_1097 : decode code 1097 = .ok (.aload_n 0, 1) := by decide +kernel
theorem d_law_1098 : decode code 1098 = .ok (.iload_n 3, 1) := by decide +kernel
theorem d_law_1099 : decode code 1099 = .ok (.iconst 2, 1) := by decide +kernel
theorem d_law_1100 : decode code 1100 = .ok (.iadd, 1) := by decide +kernel
theorem d_law_1101 : decode code 1101 = .ok (.iaload, 1) := by decide +kernel
theorem d_law_1102 : decode code 1102 = .ok (.aload_n 0, 1) := by decide +kernel
theorem d_law_1103 : decode code 1103 = .ok (.iload_n 3, 1) := by decide +kernel
theorem d_law_1104 : decode code 1104 = .ok (.iconst 3, 1) := by decide +kernel
theorem d_law_1105 : decode code 1105 = .ok (.iadd, 1) := by decide +kernel
theorem d_law_1106 : decode code 1106 = .ok (.iaload, 1) := by decide +kernel
theorem d_law_1107 : decode code 1107 = .ok (.invokevirtual 143, 3) := by decide +kernel
theorem d_law_1110 : decode code 1110 = .ok (.if_icmp .eq 175, 3) := by decide +kernel
theorem d_law_1113 : decode code 1113 = .ok (.iconst 0, 1) := by decide +kernel
theorem d_law_1114 : decode code 1114 = .ok (.ireturn, 1) := by decide +kernel
theorem d_law_1115 : decode code 1115 = .ok (.aload_n 1, 1) := by decide +kernel
theorem d_law_1116 : decode code 1116 = .ok (.aload_n 0, 1) := by decide +kernel
theorem d_law_1117 : decode code 1117 = .ok (.iload_n 3, 1) := by decide +kernel
theorem d_law_1118 : decode code 1118 = .ok (.iconst 1, 1) := by decide +kernel
theorem d_law_1119 : decode code 1119 = .ok (.iadd, 1) := by decide +kernel
theorem d_law_1120 : decode code 1120 = .ok (.iaload, 1) := by decide +kernel
theorem d_law_1121 : decode code 1121 = .ok (.aload_n 0, 1) := by decide +kernel
theorem d_law_1122 : decode code 1122 = .ok (.iload_n 3, 1) := by decide +kernel
theorem d_law_1123 : decode code 1123 = .ok (.iconst 2, 1) := by decide +kernel
theorem d_law_1124 : decode code 1124 = .ok (.iadd, 1) := by decide +kernel
theorem d_law_1125 : decode code 1125 = .ok (.iaload, 1) := by decide +kernel
theorem d_law_1126 : decode code 1126 = .ok (.aload_n 0, 1) := by decide +kernel
theorem d_law_1127 : decode code 1127 = .ok (.iload_n 3, 1) := by decide +kernel
theorem d_law_1128 : decode code 1128 = .ok (.iconst 3, 1) := by decide +kernel
theorem d_law_1129 : decode code 1129 = .ok (.iadd, 1) := by decide +kernel
theorem d_law_1130 : decode code 1130 = .ok (.iaload, 1) := by decide +kernel
theorem d_law_1131 : decode code 1131 = .ok (.i2l, 1) := by decide +kernel
theorem d_law_1132 : decode code 1132 = .ok (.bipush 32, 2) := by decide +kernel
theorem d_law_1134 : decode code 1134 = .ok (.lshl, 1) := by decide +kernel
theorem d_law_1135 : decode code 1135 = .ok (.aload_n 0, 1) := by decide +kernel
theorem d_law_1136 : decode code 1136 = .ok (.iload_n 3, 1) := by decide +kernel
theorem d_law_1137 : decode code 1137 = .ok (.iconst 4, 1) := by decide +kernel
theorem d_law_1138 : decode code 1138 = .ok (.iadd, 1) := by decide +kernel
theorem d_law_1139 : decode code 1139 = .ok (.iaload, 1) := by decide +kernel
theorem d_law_1140 : decode code 1140 = .ok (.i2l, 1) := by decide +kernel
theorem d_law_1141 : decode code 1141 = .ok (.ldc2_w 144, 3) := by decide +kernel
theorem d_law_1144 : decode code 1144 = .ok (.land, 1) := by decide +kernel
theorem d_law_1145 : decode code 1145 = .ok (.lor, 1) := by decide +kernel
theorem d_law_1146 : decode code 1146 = .ok (.invokevirtual 146, 3) := by decide +kernel
theorem d_law_1149 : decode code 1149 = .ok (.aload_n 2, 1) := by decide +kernel
theorem d_law_1150 : decode code 1150 = .ok (.aload_n 0, 1) := by decide +kernel
theorem d_law_1151 : decode code 1151 = .ok (.iload_n 3, 1) := by decide +kernel
theorem d_law_1152 : decode code 1152 = .ok (.iconst 1, 1) := by decide +kernel
theorem d_law_1153 : decode code 1153 = .ok (.iadd, 1) := by decide +kernel
theorem d_law_1154 : decode code 1154 = .ok (.iaload, 1) := by decide +kernel
theorem d_law_1155 : decode code 1155 = .ok (.aload_n 0, 1) := by decide +kernel
theorem d_law_1156 : decode code 1156 = .ok (.iload_n 3, 1) := by decide +kernel
theorem d_law_1157 : decode code 1157 = .ok (.iconst 2, 1) := by decide +kernel
theorem d_law_1158 : decode code 1158 = .ok (.iadd, 1) := by decide +kernel
theorem d_law_1159 : decode code 1159 = .ok (.iaload, 1) := by decide +kernel
theorem d_law_1160 : decode code 1160 = .ok (.aload_n 0, 1) := by decide +kernel
theorem d_law_1161 : decode code 1161 = .ok (.iload_n 3, 1) := by decide +kernel
theorem d_law_1162 : decode code 1162 = .ok (.iconst 3, 1) := by decide +kernel
theorem d_law_1163 : decode code 1163 = .ok (.iadd, 1) := by decide +kernel
theorem d_law_1164 : decode code 1164 = .ok (.iaload, 1) := by decide +kernel
theorem d_law_1165 : decode code 1165 = .ok (.i2l, 1) := by decide +kernel
theorem d_law_1166 : decode code 1166 = .ok (.bipush 32, 2) := by decide +kernel
theorem d_law_1168 : decode code 1168 = .ok (.lshl, 1) := by decide +kernel
theorem d_law_1169 : decode code 1169 = .ok (.aload_n 0, 1) := by decide +kernel
theorem d_law_1170 : decode code 1170 = .ok (.iload_n 3, 1) := by decide +kernel
theorem d_law_1171 : decode code 1171 = .ok (.iconst 4, 1) := by decide +kernel
theorem d_law_1172 : decode code 1172 = .ok (.iadd, 1) := by decide +kernel
theorem d_law_1173 : decode code 1173 = .ok (.iaload, 1) := by decide +kernel
theorem d_law_1174 : decode code 1174 = .ok (.i2l, 1) := by decide +kernel
theorem d_law_1175 : decode code 1175 = .ok (.ldc2_w 144, 3) := by decide +kernel
theorem d_law_1178 : decode code 1178 = .ok (.land, 1) := by decide +kernel
theorem d_law_1179 : decode code 1179 = .ok (.lor, 1) := by decide +kernel
theorem d_law_1180 : decode code 1180 = .ok (.invokevirtual 150, 3) := by decide +kernel
theorem d_law_1183 : decode code 1183 = .ok (.if_icmp .eq 102, 3) := by decide +kernel
theorem d_law_1186 : decode code 1186 = .ok (.iconst 0, 1) := by decide +kernel
theorem d_law_1187 : decode code 1187 = .ok (.ireturn, 1) := by decide +kernel
theorem d_law_1188 : decode code 1188 = .ok (.aload_n 1, 1) := by decide +kernel
theorem d_law_1189 : decode code 1189 = .ok (.aload_n 0, 1) := by decide +kernel
theorem d_law_1190 : decode code 1190 = .ok (.iload_n 3, 1) := by decide +kernel
theorem d_law_1191 : decode code 1191 = .ok (.iconst 1, 1) := by decide +kernel
theorem d_law_1192 : decode code 1192 = .ok (.iadd, 1) := by decide +kernel
theorem d_law_1193 : decode code 1193 = .ok (.iaload, 1) := by decide +kernel
theorem d_law_1194 : decode code 1194 = .ok (.aload_n 0, 1) := by decide +kernel
theorem d_law_1195 : decode code 1195 = .ok (.iload_n 3, 1) := by decide +kernel
theorem d_law_1196 : decode code 1196 = .ok (.iconst 2, 1) := by decide +kernel
theorem d_law_1197 : decode code 1197 = .ok (.iadd, 1) := by decide +kernel
theorem d_law_1198 : decode code 1198 = .ok (.iaload, 1) := by decide +kernel
theorem d_law_1199 : decode code 1199 = .ok (.invokevirtual 151, 3) := by decide +kernel
theorem d_law_1202 : decode code 1202 = .ok (.aload_n 2, 1) := by decide +kernel
theorem d_law_1203 : decode code 1203 = .ok (.aload_n 0, 1) := by decide +kernel
theorem d_law_1204 : decode code 1204 = .ok (.iload_n 3, 1) := by decide +kernel
theorem d_law_1205 : decode code 1205 = .ok (.iconst 1, 1) := by decide +kernel
theorem d_law_1206 : decode code 1206 = .ok (.iadd, 1) := by decide +kernel
theorem d_law_1207 : decode code 1207 = .ok (.iaload, 1) := by decide +kernel
theorem d_law_1208 : decode code 1208 = .ok (.aload_n 0, 1) := by decide +kernel
theorem d_law_1209 : decode code 1209 = .ok (.iload_n 3, 1) := by decide +kernel
theorem d_law_1210 : decode code 1210 = .ok (.iconst 2, 1) := by decide +kernel
theorem d_law_1211 : decode code 1211 = .ok (.iadd, 1) := by decide +kernel
theorem d_law_1212 : decode code 1212 = .ok (.iaload, 1) := by decide +kernel
theorem d_law_1213 : decode code 1213 = .ok (.invokevirtual 154, 3) := by decide +kernel
theorem d_law_1216 : decode code 1216 = .ok (.lcmp, 1) := by decide +kernel
theorem d_law_1217 : decode code 1217 = .ok (.ifCond .eq 68, 3) := by decide +kernel
theorem d_law_1220 : decode code 1220 = .ok (.iconst 0, 1) := by decide +kernel
theorem d_law_1221 : decode code 1221 = .ok (.ireturn, 1) := by decide +kernel
theorem d_law_1222 : decode code 1222 = .ok (.aload_n 1, 1) := by decide +kernel
theorem d_law_1223 : decode code 1223 = .ok (.aload_n 0, 1) := by decide +kernel
theorem d_law_1224 : decode code 1224 = .ok (.iload_n 3, 1) := by decide +kernel
theorem d_law_1225 : decode code 1225 = .ok (.iconst 1, 1) := by decide +kernel
theorem d_law_1226 : decode code 1226 = .ok (.iadd, 1) := by decide +kernel
theorem d_law_1227 : decode code 1227 = .ok (.iaload, 1) := by decide +kernel
theorem d_law_1228 : decode code 1228 = .ok (.aload_n 0, 1) := by decide +kernel
theorem d_law_1229 : decode code 1229 = .ok (.iload_n 3, 1) := by decide +kernel
theorem d_law_1230 : decode code 1230 = .ok (.iconst 2, 1) := by decide +kernel
theorem d_law_1231 : decode code 1231 = .ok (.iadd, 1) := by decide +kernel
theorem d_law_1232 : decode code 1232 = .ok (.iaload, 1) := by decide +kernel
theorem d_law_1233 : decode code 1233 = .ok (.aload_n 0, 1) := by decide +kernel
theorem d_law_1234 : decode code 1234 = .ok (.iload_n 3, 1) := by decide +kernel
theorem d_law_1235 : decode code 1235 = .ok (.iconst 3, 1) := by decide +kernel
theorem d_law_1236 : decode code 1236 = .ok (.iadd, 1) := by decide +kernel
theorem d_law_1237 : decode code 1237 = .ok (.iaload, 1) := by decide +kernel
theorem d_law_1238 : decode code 1238 = .ok (.aload_n 0, 1) := by decide +kernel
theorem d_law_1239 : decode code 1239 = .ok (.iload_n 3, 1) := by decide +kernel
theorem d_law_1240 : decode code 1240 = .ok (.iconst 4, 1) := by decide +kernel
theorem d_law_1241 : decode code 1241 = .ok (.iadd, 1) := by decide +kernel
theorem d_law_1242 : decode code 1242 = .ok (.iaload, 1) := by decide +kernel
theorem d_law_1243 : decode code 1243 = .ok (.aload_n 0, 1) := by decide +kernel
theorem d_law_1244 : decode code 1244 = .ok (.iload_n 3, 1) := by decide +kernel
theorem d_law_1245 : decode code 1245 = .ok (.iconst 5, 1) := by decide +kernel
theorem d_law_1246 : decode code 1246 = .ok (.iadd, 1) := by decide +kernel
theorem d_law_1247 : decode code 1247 = .ok (.iaload, 1) := by decide +kernel
theorem d_law_1248 : decode code 1248 = .ok (.invokevirtual 155, 3) := by decide +kernel
theorem d_law_1251 : decode code 1251 = .ok (.aload_n 2, 1) := by decide +kernel
theorem d_law_1252 : decode code 1252 = .ok (.aload_n 0, 1) := by decide +kernel
theorem d_law_1253 : decode code 1253 = .ok (.iload_n 3, 1) := by decide +kernel
theorem d_law_1254 : decode code 1254 = .ok (.iconst 1, 1) := by decide +kernel
theorem d_law_1255 : decode code 1255 = .ok (.iadd, 1) := by decide +kernel
theorem d_law_1256 : decode code 1256 = .ok (.iaload, 1) := by decide +kernel
theorem d_law_1257 : decode code 1257 = .ok (.aload_n 0, 1) := by decide +kernel
theorem d_law_1258 : decode code 1258 = .ok (.iload_n 3, 1) := by decide +kernel
theorem d_law_1259 : decode code 1259 = .ok (.iconst 2, 1) := by decide +kernel
theorem d_law_1260 : decode code 1260 = .ok (.iadd, 1) := by decide +kernel
theorem d_law_1261 : decode code 1261 = .ok (.iaload, 1) := by decide +kernel
theorem d_law_1262 : decode code 1262 = .ok (.aload_n 0, 1) := by decide +kernel
theorem d_law_1263 : decode code 1263 = .ok (.iload_n 3, 1) := by decide +kernel
theorem d_law_1264 : decode code 1264 = .ok (.iconst 3, 1) := by decide +kernel
theorem d_law_1265 : decode code 1265 = .ok (.iadd, 1) := by decide +kernel
theorem d_law_1266 : decode code 1266 = .ok (.iaload, 1) := by decide +kernel
theorem d_law_1267 : decode code 1267 = .ok (.aload_n 0, 1) := by decide +kernel
theorem d_law_1268 : decode code 1268 = .ok (.iload_n 3, 1) := by decide +kernel
theorem d_law_1269 : decode code 1269 = .ok (.iconst 4, 1) := by decide +kernel
theorem d_law_1270 : decode code 1270 = .ok (.iadd, 1) := by decide +kernel
theorem d_law_1271 : decode code 1271 = .ok (.iaload, 1) := by decide +kernel
theorem d_law_1272 : decode code 1272 = .ok (.aload_n 0, 1) := by decide +kernel
theorem d_law_1273 : decode code 1273 = .ok (.iload_n 3, 1) := by decide +kernel
theorem d_law_1274 : decode code 1274 = .ok (.iconst 5, 1) := by decide +kernel
theorem d_law_1275 : decode code 1275 = .ok (.iadd, 1) := by decide +kernel
theorem d_law_1276 : decode code 1276 = .ok (.iaload, 1) := by decide +kernel
theorem d_law_1277 : decode code 1277 = .ok (.invokevirtual 159, 3) := by decide +kernel
theorem d_law_1280 : decode code 1280 = .ok (.if_icmp .eq 5, 3) := by decide +kernel
theorem d_law_1283 : decode code 1283 = .ok (.iconst 0, 1) := by decide +kernel
theorem d_law_1284 : decode code 1284 = .ok (.ireturn, 1) := by decide +kernel
theorem d_law_1285 : decode code 1285 = .ok (.iinc 3 6, 3) := by decide +kernel
theorem d_law_1288 : decode code 1288 = .ok (.goto (-1270), 3) := by decide +kernel
theorem d_law_1291 : decode code 1291 = .ok (.iconst 1, 1) := by decide +kernel
theorem d_law_1292 : decode code 1292 = .ok (.ireturn, 1) := by decide +kernel
theorem lq_340 : (Jvm.Cond.methodLink "BakedBeforeLaw" (13 : Nat) ({ cls := "BakedBefore", name := "loaf", desc := "(II)I" } : Jvm.MethodName)) ∈ zW0 := q_in (List.mem_of_getElem? (i := 340) (by decide +kernel)) (by decide +kernel)
theorem lq_348 : (Jvm.Cond.methodLink "BakedBeforeLaw" (18 : Nat) ({ cls := "BakedBefore", name := "set", desc := "(IIII)I" } : Jvm.MethodName)) ∈ zW0 := q_in (List.mem_of_getElem? (i := 348) (by decide +kernel)) (by decide +kernel)
theorem lq_359 : (Jvm.Cond.methodLink "BakedBeforeLaw" (23 : Nat) ({ cls := "BakedBefore", name := "of", desc := "(II)I" } : Jvm.MethodName)) ∈ zW0 := q_in (List.mem_of_getElem? (i := 359) (by decide +kernel)) (by decide +kernel)
theorem lq_413 : (Jvm.Cond.methodLink "BakedBeforeLaw" (27 : Nat) ({ cls := "BakedBefore", name := "oven", desc := "(II)I" } : Jvm.MethodName)) ∈ zW0 := q_in (List.mem_of_getElem? (i := 413) (by decide +kernel)) (by decide +kernel)
theorem lq_417 : (Jvm.Cond.methodLink "BakedBeforeLaw" (31 : Nat) ({ cls := "BakedBefore", name := "feed", desc := "(I)I" } : Jvm.MethodName)) ∈ zW0 := q_in (List.mem_of_getElem? (i := 417) (by decide +kernel)) (by decide +kernel)
theorem lq_425 : (Jvm.Cond.methodLink "BakedBeforeLaw" (36 : Nat) ({ cls := "BakedBefore", name := "kiln", desc := "()I" } : Jvm.MethodName)) ∈ zW0 := q_in (List.mem_of_getElem? (i := 425) (by decide +kernel)) (by decide +kernel)
theorem lq_546 : (Jvm.Cond.methodLink "BakedBeforeLaw" (41 : Nat) ({ cls := "BakedBefore", name := "told", desc := "(I)I" } : Jvm.MethodName)) ∈ zW0 := q_in (List.mem_of_getElem? (i := 546) (by decide +kernel)) (by decide +kernel)
theorem lq_550 : (Jvm.Cond.methodLink "BakedBeforeLaw" (45 : Nat) ({ cls := "BakedBefore", name := "bake", desc := "(I)I" } : Jvm.MethodName)) ∈ zW0 := q_in (List.mem_of_getElem? (i := 550) (by decide +kernel)) (by decide +kernel)
theorem lq_564 : (Jvm.Cond.methodLink "BakedBeforeLaw" (49 : Nat) ({ cls := "BakedBefore", name := "cold", desc := "()I" } : Jvm.MethodName)) ∈ zW0 := q_in (List.mem_of_getElem? (i := 564) (by decide +kernel)) (by decide +kernel)
theorem lq_572 : (Jvm.Cond.methodLink "BakedBeforeLaw" (53 : Nat) ({ cls := "BakedBefore", name := "would", desc := "(III)I" } : Jvm.MethodName)) ∈ zW0 := q_in (List.mem_of_getElem? (i := 572) (by decide +kernel)) (by decide +kernel)
theorem lq_588 : (Jvm.Cond.methodLink "BakedBeforeLaw" (58 : Nat) ({ cls := "BakedBefore", name := "orde\x72", desc := "(II)I" } : Jvm.MethodName)) ∈ zW0 := q_in (List.mem_of_getElem? (i := 588) (by decide +kernel)) (by decide +kernel)
theorem lq_616 : (Jvm.Cond.methodLink "BakedBeforeLaw" (62 : Nat) ({ cls := "BakedBefore", name := "colds", desc := "(II)I" } : Jvm.MethodName)) ∈ zW0 := q_in (List.mem_of_getElem? (i := 616) (by decide +kernel)) (by decide +kernel)
theorem lq_631 : (Jvm.Cond.methodLink "BakedBeforeLaw" (66 : Nat) ({ cls := "BakedBefore", name := "place", desc := "(II)I" } : Jvm.MethodName)) ∈ zW0 := q_in (List.mem_of_getElem? (i := 631) (by decide +kernel)) (by decide +kernel)
theorem lq_643 : (Jvm.Cond.methodLink "BakedBeforeLaw" (70 : Nat) ({ cls := "BakedBefore", name := "guilty", desc := "(I)I" } : Jvm.MethodName)) ∈ zW0 := q_in (List.mem_of_getElem? (i := 643) (by decide +kernel)) (by decide +kernel)
theorem lq_655 : (Jvm.Cond.methodLink "BakedBeforeLaw" (74 : Nat) ({ cls := "BakedBefore", name := "two", desc := "(I)I" } : Jvm.MethodName)) ∈ zW0 := q_in (List.mem_of_getElem? (i := 655) (by decide +kernel)) (by decide +kernel)
theorem lq_667 : (Jvm.Cond.methodLink "BakedBeforeLaw" (78 : Nat) ({ cls := "BakedBefore", name := "has", desc := "(I)I" } : Jvm.MethodName)) ∈ zW0 := q_in (List.mem_of_getElem? (i := 667) (by decide +kernel)) (by decide +kernel)
theorem lq_681 : (Jvm.Cond.methodLink "BakedBeforeLaw" (82 : Nat) ({ cls := "BakedBefore", name := "swaps", desc := "(I)I" } : Jvm.MethodName)) ∈ zW0 := q_in (List.mem_of_getElem? (i := 681) (by decide +kernel)) (by decide +kernel)
theorem lq_693 : (Jvm.Cond.methodLink "BakedBeforeLaw" (86 : Nat) ({ cls := "BakedBefore", name := "span", desc := "(IIII)I" } : Jvm.MethodName)) ∈ zW0 := q_in (List.mem_of_getElem? (i := 693) (by decide +kernel)) (by decide +kernel)
theorem lq_706 : (Jvm.Cond.methodLink "BakedBeforeLaw" (90 : Nat) ({ cls := "BakedBefore", name := "yea\x72", desc := "(III)I" } : Jvm.MethodName)) ∈ zW0 := q_in (List.mem_of_getElem? (i := 706) (by decide +kernel)) (by decide +kernel)
theorem lq_717 : (Jvm.Cond.methodLink "BakedBeforeLaw" (94 : Nat) ({ cls := "BakedBefore", name := "odds", desc := "(II)J" } : Jvm.MethodName)) ∈ zW0 := q_in (List.mem_of_getElem? (i := 717) (by decide +kernel)) (by decide +kernel)
theorem lq_730 : (Jvm.Cond.methodLink "BakedBeforeLaw" (99 : Nat) ({ cls := "BakedBefore", name := "mean", desc := "(II)J" } : Jvm.MethodName)) ∈ zW0 := q_in (List.mem_of_getElem? (i := 730) (by decide +kernel)) (by decide +kernel)
theorem lq_738 : (Jvm.Cond.methodLink "BakedBeforeLaw" (103 : Nat) ({ cls := "BakedBefore", name := "book", desc := "(IZ)I" } : Jvm.MethodName)) ∈ zW0 := q_in (List.mem_of_getElem? (i := 738) (by decide +kernel)) (by decide +kernel)
theorem lq_746 : (Jvm.Cond.methodLink "BakedBeforeLaw" (108 : Nat) ({ cls := "BakedBefore", name := "looked", desc := "()I" } : Jvm.MethodName)) ∈ zW0 := q_in (List.mem_of_getElem? (i := 746) (by decide +kernel)) (by decide +kernel)
theorem lq_754 : (Jvm.Cond.methodLink "BakedBeforeLaw" (112 : Nat) ({ cls := "BakedBefore", name := "judge", desc := "(II)I" } : Jvm.MethodName)) ∈ zW0 := q_in (List.mem_of_getElem? (i := 754) (by decide +kernel)) (by decide +kernel)
theorem lq_765 : (Jvm.Cond.methodLink "BakedBeforeLaw" (116 : Nat) ({ cls := "BakedBefore", name := "image", desc := "()I" } : Jvm.MethodName)) ∈ zW0 := q_in (List.mem_of_getElem? (i := 765) (by decide +kernel)) (by decide +kernel)
theorem lq_782 : (Jvm.Cond.methodLink "BakedBeforeLaw" (120 : Nat) ({ cls := "BakedBefore", name := "undo", desc := "()I" } : Jvm.MethodName)) ∈ zW0 := q_in (List.mem_of_getElem? (i := 782) (by decide +kernel)) (by decide +kernel)
theorem lq_786 : (Jvm.Cond.methodLink "BakedBeforeLaw" (124 : Nat) ({ cls := "BakedBefore", name := "act", desc := "(III)I" } : Jvm.MethodName)) ∈ zW0 := q_in (List.mem_of_getElem? (i := 786) (by decide +kernel)) (by decide +kernel)
theorem lq_809 : (Jvm.Cond.methodLink "BakedBeforeLaw" (128 : Nat) ({ cls := "BakedBefore", name := "trace", desc := "(I)I" } : Jvm.MethodName)) ∈ zW0 := q_in (List.mem_of_getElem? (i := 809) (by decide +kernel)) (by decide +kernel)
theorem lq_813 : (Jvm.Cond.methodLink "BakedBeforeLaw" (132 : Nat) ({ cls := "BakedBefore", name := "taken", desc := "(II)I" } : Jvm.MethodName)) ∈ zW0 := q_in (List.mem_of_getElem? (i := 813) (by decide +kernel)) (by decide +kernel)
theorem lq_822 : (Jvm.Cond.methodLink "BakedBeforeLaw" (136 : Nat) ({ cls := "BakedBefore", name := "count", desc := "(I)I" } : Jvm.MethodName)) ∈ zW0 := q_in (List.mem_of_getElem? (i := 822) (by decide +kernel)) (by decide +kernel)
theorem lq_826 : (Jvm.Cond.methodLink "BakedBeforeLaw" (140 : Nat) ({ cls := "BakedBefore", name := "tape", desc := "(III)I" } : Jvm.MethodName)) ∈ zW0 := q_in (List.mem_of_getElem? (i := 826) (by decide +kernel)) (by decide +kernel)
theorem lq_834 : (Jvm.Cond.methodLink "BakedBeforeLaw" (146 : Nat) ({ cls := "BakedBefore", name := "item", desc := "(IIJ)I" } : Jvm.MethodName)) ∈ zW0 := q_in (List.mem_of_getElem? (i := 834) (by decide +kernel)) (by decide +kernel)
theorem lq_845 : (Jvm.Cond.methodLink "BakedBeforeLaw" (151 : Nat) ({ cls := "BakedBefore", name := "read", desc := "(II)J" } : Jvm.MethodName)) ∈ zW0 := q_in (List.mem_of_getElem? (i := 845) (by decide +kernel)) (by decide +kernel)
theorem lq_854 : (Jvm.Cond.methodLink "BakedBeforeLaw" (155 : Nat) ({ cls := "BakedBefore", name := "shift", desc := "(IIIII)I" } : Jvm.MethodName)) ∈ zW0 := q_in (List.mem_of_getElem? (i := 854) (by decide +kernel)) (by decide +kernel)
theorem lq_965 : (Jvm.Cond.methodLink "BakedBeforeLaw" (35 : Nat) ({ cls := "BakedBeforeModel", name := "feed", desc := "(I)I" } : Jvm.MethodName)) ∈ zW0 := q_in (List.mem_of_getElem? (i := 965) (by decide +kernel)) (by decide +kernel)
theorem lq_972 : (Jvm.Cond.methodLink "BakedBeforeLaw" (40 : Nat) ({ cls := "BakedBeforeModel", name := "kiln", desc := "()I" } : Jvm.MethodName)) ∈ zW0 := q_in (List.mem_of_getElem? (i := 972) (by decide +kernel)) (by decide +kernel)
theorem lq_1045 : (Jvm.Cond.methodLink "BakedBeforeLaw" (17 : Nat) ({ cls := "BakedBeforeModel", name := "loaf", desc := "(II)I" } : Jvm.MethodName)) ∈ zW0 := q_in (List.mem_of_getElem? (i := 1045) (by decide +kernel)) (by decide +kernel)
theorem lq_1049 : (Jvm.Cond.methodLink "BakedBeforeLaw" (22 : Nat) ({ cls := "BakedBeforeModel", name := "set", desc := "(IIII)I" } : Jvm.MethodName)) ∈ zW0 := q_in (List.mem_of_getElem? (i := 1049) (by decide +kernel)) (by decide +kernel)
theorem lq_1060 : (Jvm.Cond.methodLink "BakedBeforeLaw" (26 : Nat) ({ cls := "BakedBeforeModel", name := "of", desc := "(II)I" } : Jvm.MethodName)) ∈ zW0 := q_in (List.mem_of_getElem? (i := 1060) (by decide +kernel)) (by decide +kernel)
theorem lq_1092 : (Jvm.Cond.methodLink "BakedBeforeLaw" (30 : Nat) ({ cls := "BakedBeforeModel", name := "oven", desc := "(II)I" } : Jvm.MethodName)) ∈ zW0 := q_in (List.mem_of_getElem? (i := 1092) (by decide +kernel)) (by decide +kernel)
theorem lq_1096 : (Jvm.Cond.methodLink "BakedBeforeLaw" (44 : Nat) ({ cls := "BakedBeforeModel", name := "told", desc := "(I)I" } : Jvm.MethodName)) ∈ zW0 := q_in (List.mem_of_getElem? (i := 1096) (by decide +kernel)) (by decide +kernel)
theorem lq_1100 : (Jvm.Cond.methodLink "BakedBeforeLaw" (48 : Nat) ({ cls := "BakedBeforeModel", name := "bake", desc := "(I)I" } : Jvm.MethodName)) ∈ zW0 := q_in (List.mem_of_getElem? (i := 1100) (by decide +kernel)) (by decide +kernel)
theorem lq_1112 : (Jvm.Cond.methodLink "BakedBeforeLaw" (52 : Nat) ({ cls := "BakedBeforeModel", name := "cold", desc := "()I" } : Jvm.MethodName)) ∈ zW0 := q_in (List.mem_of_getElem? (i := 1112) (by decide +kernel)) (by decide +kernel)
theorem lq_1120 : (Jvm.Cond.methodLink "BakedBeforeLaw" (57 : Nat) ({ cls := "BakedBeforeModel", name := "would", desc := "(III)I" } : Jvm.MethodName)) ∈ zW0 := q_in (List.mem_of_getElem? (i := 1120) (by decide +kernel)) (by decide +kernel)
theorem lq_1135 : (Jvm.Cond.methodLink "BakedBeforeLaw" (61 : Nat) ({ cls := "BakedBeforeModel", name := "orde\x72", desc := "(II)I" } : Jvm.MethodName)) ∈ zW0 := q_in (List.mem_of_getElem? (i := 1135) (by decide +kernel)) (by decide +kernel)
theorem lq_1154 : (Jvm.Cond.methodLink "BakedBeforeLaw" (65 : Nat) ({ cls := "BakedBeforeModel", name := "colds", desc := "(II)I" } : Jvm.MethodName)) ∈ zW0 := q_in (List.mem_of_getElem? (i := 1154) (by decide +kernel)) (by decide +kernel)
theorem lq_1165 : (Jvm.Cond.methodLink "BakedBeforeLaw" (69 : Nat) ({ cls := "BakedBeforeModel", name := "place", desc := "(II)I" } : Jvm.MethodName)) ∈ zW0 := q_in (List.mem_of_getElem? (i := 1165) (by decide +kernel)) (by decide +kernel)
theorem lq_1177 : (Jvm.Cond.methodLink "BakedBeforeLaw" (73 : Nat) ({ cls := "BakedBeforeModel", name := "guilty", desc := "(I)I" } : Jvm.MethodName)) ∈ zW0 := q_in (List.mem_of_getElem? (i := 1177) (by decide +kernel)) (by decide +kernel)
theorem lq_1185 : (Jvm.Cond.methodLink "BakedBeforeLaw" (77 : Nat) ({ cls := "BakedBeforeModel", name := "two", desc := "(I)I" } : Jvm.MethodName)) ∈ zW0 := q_in (List.mem_of_getElem? (i := 1185) (by decide +kernel)) (by decide +kernel)
theorem lq_1193 : (Jvm.Cond.methodLink "BakedBeforeLaw" (81 : Nat) ({ cls := "BakedBeforeModel", name := "has", desc := "(I)I" } : Jvm.MethodName)) ∈ zW0 := q_in (List.mem_of_getElem? (i := 1193) (by decide +kernel)) (by decide +kernel)
theorem lq_1202 : (Jvm.Cond.methodLink "BakedBeforeLaw" (85 : Nat) ({ cls := "BakedBeforeModel", name := "swaps", desc := "(I)I" } : Jvm.MethodName)) ∈ zW0 := q_in (List.mem_of_getElem? (i := 1202) (by decide +kernel)) (by decide +kernel)
theorem lq_1210 : (Jvm.Cond.methodLink "BakedBeforeLaw" (89 : Nat) ({ cls := "BakedBeforeModel", name := "span", desc := "(IIII)I" } : Jvm.MethodName)) ∈ zW0 := q_in (List.mem_of_getElem? (i := 1210) (by decide +kernel)) (by decide +kernel)
theorem lq_1214 : (Jvm.Cond.methodLink "BakedBeforeLaw" (93 : Nat) ({ cls := "BakedBeforeModel", name := "yea\x72", desc := "(III)I" } : Jvm.MethodName)) ∈ zW0 := q_in (List.mem_of_getElem? (i := 1214) (by decide +kernel)) (by decide +kernel)
theorem lq_1220 : (Jvm.Cond.methodLink "BakedBeforeLaw" (98 : Nat) ({ cls := "BakedBeforeModel", name := "odds", desc := "(II)J" } : Jvm.MethodName)) ∈ zW0 := q_in (List.mem_of_getElem? (i := 1220) (by decide +kernel)) (by decide +kernel)
theorem lq_1231 : (Jvm.Cond.methodLink "BakedBeforeLaw" (102 : Nat) ({ cls := "BakedBeforeModel", name := "mean", desc := "(II)J" } : Jvm.MethodName)) ∈ zW0 := q_in (List.mem_of_getElem? (i := 1231) (by decide +kernel)) (by decide +kernel)
theorem lq_1235 : (Jvm.Cond.methodLink "BakedBeforeLaw" (107 : Nat) ({ cls := "BakedBeforeModel", name := "book", desc := "(IZ)I" } : Jvm.MethodName)) ∈ zW0 := q_in (List.mem_of_getElem? (i := 1235) (by decide +kernel)) (by decide +kernel)
theorem lq_1239 : (Jvm.Cond.methodLink "BakedBeforeLaw" (111 : Nat) ({ cls := "BakedBeforeModel", name := "looked", desc := "()I" } : Jvm.MethodName)) ∈ zW0 := q_in (List.mem_of_getElem? (i := 1239) (by decide +kernel)) (by decide +kernel)
theorem lq_1247 : (Jvm.Cond.methodLink "BakedBeforeLaw" (115 : Nat) ({ cls := "BakedBeforeModel", name := "judge", desc := "(II)I" } : Jvm.MethodName)) ∈ zW0 := q_in (List.mem_of_getElem? (i := 1247) (by decide +kernel)) (by decide +kernel)
theorem lq_1254 : (Jvm.Cond.methodLink "BakedBeforeLaw" (119 : Nat) ({ cls := "BakedBeforeModel", name := "image", desc := "()I" } : Jvm.MethodName)) ∈ zW0 := q_in (List.mem_of_getElem? (i := 1254) (by decide +kernel)) (by decide +kernel)
theorem lq_1258 : (Jvm.Cond.methodLink "BakedBeforeLaw" (123 : Nat) ({ cls := "BakedBeforeModel", name := "undo", desc := "()I" } : Jvm.MethodName)) ∈ zW0 := q_in (List.mem_of_getElem? (i := 1258) (by decide +kernel)) (by decide +kernel)
theorem lq_1262 : (Jvm.Cond.methodLink "BakedBeforeLaw" (127 : Nat) ({ cls := "BakedBeforeModel", name := "act", desc := "(III)I" } : Jvm.MethodName)) ∈ zW0 := q_in (List.mem_of_getElem? (i := 1262) (by decide +kernel)) (by decide +kernel)
theorem lq_1282 : (Jvm.Cond.methodLink "BakedBeforeLaw" (131 : Nat) ({ cls := "BakedBeforeModel", name := "trace", desc := "(I)I" } : Jvm.MethodName)) ∈ zW0 := q_in (List.mem_of_getElem? (i := 1282) (by decide +kernel)) (by decide +kernel)
theorem lq_1286 : (Jvm.Cond.methodLink "BakedBeforeLaw" (135 : Nat) ({ cls := "BakedBeforeModel", name := "taken", desc := "(II)I" } : Jvm.MethodName)) ∈ zW0 := q_in (List.mem_of_getElem? (i := 1286) (by decide +kernel)) (by decide +kernel)
theorem lq_1293 : (Jvm.Cond.methodLink "BakedBeforeLaw" (139 : Nat) ({ cls := "BakedBeforeModel", name := "count", desc := "(I)I" } : Jvm.MethodName)) ∈ zW0 := q_in (List.mem_of_getElem? (i := 1293) (by decide +kernel)) (by decide +kernel)
theorem lq_1297 : (Jvm.Cond.methodLink "BakedBeforeLaw" (143 : Nat) ({ cls := "BakedBeforeModel", name := "tape", desc := "(III)I" } : Jvm.MethodName)) ∈ zW0 := q_in (List.mem_of_getElem? (i := 1297) (by decide +kernel)) (by decide +kernel)
theorem lq_1301 : (Jvm.Cond.methodLink "BakedBeforeLaw" (150 : Nat) ({ cls := "BakedBeforeModel", name := "item", desc := "(IIJ)I" } : Jvm.MethodName)) ∈ zW0 := q_in (List.mem_of_getElem? (i := 1301) (by decide +kernel)) (by decide +kernel)
theorem lq_1308 : (Jvm.Cond.methodLink "BakedBeforeLaw" (154 : Nat) ({ cls := "BakedBeforeModel", name := "read", desc := "(II)J" } : Jvm.MethodName)) ∈ zW0 := q_in (List.mem_of_getElem? (i := 1308) (by decide +kernel)) (by decide +kernel)
theorem lq_1312 : (Jvm.Cond.methodLink "BakedBeforeLaw" (159 : Nat) ({ cls := "BakedBeforeModel", name := "shift", desc := "(IIIII)I" } : Jvm.MethodName)) ∈ zW0 := q_in (List.mem_of_getElem? (i := 1312) (by decide +kernel)) (by decide +kernel)
theorem lq_1316 : (Jvm.Cond.constantLong "BakedBeforeLaw" (144 : Nat) (4294967295 : Int64)) ∈ zW0 := q_in (List.mem_of_getElem? (i := 1316) (by decide +kernel)) (by decide +kernel)
def zLv (θ : ZT) (b0 i : Nat) : List (Nat × Value) := [(3, .int (nI i)), (2, .ref (za θ 129)), (1, .ref (za θ 0)), (0, .ref b0)]
