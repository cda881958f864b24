theorem d_law_0 : decode code 0 = .ok (.new 7, 3) := by decide +kernel
theorem d_law_3 : decode code 3 = .ok (.dup, 1) := by decide +kernel
theorem d_law_4 : decode code 4 = .ok (.invokespecial 9, 3) := by decide +kernel
theorem d_law_7 : decode code 7 = .ok (.astore_n 1, 1) := by decide +kernel
theorem d_law_8 : decode code 8 = .ok (.new 10, 3) := by decide +kernel
theorem d_law_11 : decode code 11 = .ok (.dup, 1) := by decide +kernel
theorem d_law_12 : decode code 12 = .ok (.invokespecial 12, 3) := by decide +kernel
theorem d_law_15 : decode code 15 = .ok (.astore_n 2, 1) := by decide +kernel
theorem d_law_16 : decode code 16 = .ok (.iconst 0, 1) := by decide +kernel
theorem d_law_17 : decode code 17 = .ok (.istore_n 3, 1) := by decide +kernel
theorem d_law_18 : decode code 18 = .ok (.iload_n 3, 1) := by decide +kernel
theorem d_law_19 : decode code 19 = .ok (.aload_n 0, 1) := by decide +kernel
theorem d_law_20 : decode code 20 = .ok (.arraylength, 1) := by decide +kernel
theorem d_law_21 : decode code 21 = .ok (.bipush 6, 2) := by decide +kernel
theorem d_law_23 : decode code 23 = .ok (.isub, 1) := by decide +kernel
theorem d_law_24 : decode code 24 = .ok (.if_icmp .gt 1278, 3) := by decide +kernel
theorem d_law_27 : decode code 27 = .ok (.aload_n 0, 1) := by decide +kernel
theorem d_law_28 : decode code 28 = .ok (.iload_n 3, 1) := by decide +kernel
theorem d_law_29 : decode code 29 = .ok (.iaload, 1) := by decide +kernel
theorem d_law_30 : decode code 30 = .ok (.bipush 63, 2) := by decide +kernel
theorem d_law_32 : decode code 32 = .ok (.iand, 1) := by decide +kernel
theorem d_law_33 : decode code 33 = .ok (.tableswitch 1263 0 34 #[155, 188, 211, 234, 267, 310, 364, 417, 450, 513, 546, 559, 602, 615, 638, 671, 704, 717, 740, 773, 786, 809, 832, 845, 898, 921, 934, 978, 1021, 1044, 1097, 1140, 1203, 1226, 1249], 155) := by decide +kernel
theorem d_law_188 : decode code 188 = .ok (.aload_n 1, 1) := by decide +kernel
theorem d_law_189 : decode code 189 = .ok (.aload_n 0, 1) := by decide +kernel
theorem d_law_190 : decode code 190 = .ok (.iload_n 3, 1) := by decide +kernel
theorem d_law_191 : decode code 191 = .ok (.iconst 1, 1) := by decide +kernel
theorem d_law_192 : decode code 192 = .ok (.iadd, 1) := by decide +kernel
theorem d_law_193 : decode code 193 = .ok (.iaload, 1) := by decide +kernel
theorem d_law_194 : decode code 194 = .ok (.aload_n 0, 1) := by decide +kernel
theorem d_law_195 : decode code 195 = .ok (.iload_n 3, 1) := by decide +kernel
theorem d_law_196 : decode code 196 = .ok (.iconst 2, 1) := by decide +kernel
theorem d_law_197 : decode code 197 = .ok (.iadd, 1) := by decide +kernel
theorem d_law_198 : decode code 198 = .ok (.iaload, 1) := by decide +kernel
theorem d_law_199 : decode code 199 = .ok (.invokevirtual 13, 3) := by decide +kernel
theorem d_law_202 : decode code 202 = .ok (.aload_n 2, 1) := by decide +kernel
theorem d_law_203 : decode code 203 = .ok (.aload_n 0, 1) := by decide +kernel
theorem d_law_204 : decode code 204 = .ok (.iload_n 3, 1) := by decide +kernel
theorem d_law_205 : decode code 205 = .ok (.iconst 1, 1) := by decide +kernel
theorem d_law_206 : decode code 206 = .ok (.iadd, 1) := by decide +kernel
theorem d_law_207 : decode code 207 = .ok (.iaload, 1) := by decide +kernel
theorem d_law_208 : decode code 208 = .ok (.aload_n 0, 1) := by decide +kernel
theorem d_law_209 : decode code 209 = .ok (.iload_n 3, 1) := by decide +kernel
theorem d_law_210 : decode code 210 = .ok (.iconst 2, 1) := by decide +kernel
theorem d_law_211 : decode code 211 = .ok (.iadd, 1) := by decide +kernel
theorem d_law_212 : decode code 212 = .ok (.iaload, 1) := by decide +kernel
theorem d_law_213 : decode code 213 = .ok (.invokevirtual 17, 3) := by decide +kernel
theorem d_law_216 : decode code 216 = .ok (.if_icmp .eq 1080, 3) := by decide +kernel
theorem d_law_219 : decode code 219 = .ok (.iconst 0, 1) := by decide +kernel
theorem d_law_220 : decode code 220 = .ok (.ireturn, 1) := by decide +kernel
theorem d_law_221 : decode code 221 = .ok (.aload_n 1, 1) := by decide +kernel
theorem d_law_222 : decode code 222 = .ok (.aload_n 0, 1) := by decide +kernel
theorem d_law_223 : decode code 223 = .ok (.iload_n 3, 1) := by decide +kernel
theorem d_law_224 : decode code 224 = .ok (.iconst 1, 1) := by decide +kernel
theorem d_law_225 : decode code 225 = .ok (.iadd, 1) := by decide +kernel
theorem d_law_226 : decode code 226 = .ok (.iaload, 1) := by decide +kernel
theorem d_law_227 : decode code 227 = .ok (.invokevirtual 18, 3) := by decide +kernel
theorem d_law_230 : decode code 230 = .ok (.aload_n 2, 1) := by decide +kernel
theorem d_law_231 : decode code 231 = .ok (.aload_n 0, 1) := by decide +kernel
theorem d_law_232 : decode code 232 = .ok (.iload_n 3, 1) := by decide +kernel
theorem d_law_233 : decode code 233 = .ok (.iconst 1, 1) := by decide +kernel
theorem d_law_234 : decode code 234 = .ok (.iadd, 1) := by decide +kernel
theorem d_law_235 : decode code 235 = .ok (.iaload, 1) := by decide +kernel
theorem d_law_236 : decode code 236 = .ok (.invokevirtual 22, 3) := by decide +kernel
theorem d_law_239 : decode code 239 = .ok (.if_icmp .eq 1057, 3) := by decide +kernel
theorem d_law_242 : decode code 242 = .ok (.iconst 0, 1) := by decide +kernel
theorem d_law_243 : decode code 243 = .ok (.ireturn, 1) := by decide +kernel
theorem d_law_244 : decode code 244 = .ok (.aload_n 1, 1) := by decide +kernel
theorem d_law_245 : decode code 245 = .ok (.aload_n 0, 1) := by decide +kernel
theorem d_law_246 : decode code 246 = .ok (.iload_n 3, 1) := by decide +kernel
theorem d_law_247 : decode code 247 = .ok (.iconst 1, 1) := by decide +kernel
theorem d_law_248 : decode code 248 = .ok (.iadd, 1) := by decide +kernel
theorem d_law_249 : decode code 249 = .ok (.iaload, 1) := by decide +kernel
theorem d_law_250 : decode code 250 = .ok (.invokevirtual 23, 3) := by decide +kernel
theorem d_law_253 : decode code 253 = .ok (.aload_n 2, 1) := by decide +kernel
theorem d_law_254 : decode code 254 = .ok (.aload_n 0, 1) := by decide +kernel
theorem d_law_255 : decode code 255 = .ok (.iload_n 3, 1) := by decide +kernel
theorem d_law_256 : decode code 256 = .ok (.iconst 1, 1) := by decide +kernel
theorem d_law_257 : decode code 257 = .ok (.iadd, 1) := by decide +kernel
theorem d_law_258 : decode code 258 = .ok (.iaload, 1) := by decide +kernel
theorem d_law_259 : decode code 259 = .ok (.invokevirtual 26, 3) := by decide +kernel
theorem d_law_262 : decode code 262 = .ok (.if_icmp .eq 1034, 3) := by decide +kernel
theorem d_law_265 : decode code 265 = .ok (.iconst 0, 1) := by decide +kernel
theorem d_law_266 : decode code 266 = .ok (.ireturn, 1) := by decide +kernel
theorem d_law_267 : decode code 267 = .ok (.aload_n 1, 1) := by decide +kernel
theorem d_law_268 : decode code 268 = .ok (.aload_n 0, 1) := by decide +kernel
theorem d_law_269 : decode code 269 = .ok (.iload_n 3, 1) := by decide +kernel
theorem d_law_270 : decode code 270 = .ok (.iconst 1, 1) := by decide +kernel
theorem d_law_271 : decode code 271 = .ok (.iadd, 1) := by decide +kernel
theorem d_law_272 : decode code 272 = .ok (.iaload, 1) := by decide +kernel
theorem d_law_273 : decode code 273 = .ok (.aload_n 0, 1) := by decide +kernel
theorem d_law_274 : decode code 274 = .ok (.iload_n 3, 1) := by decide +kernel
theorem d_law_275 : decode code 275 = .ok (.iconst 2, 1) := by decide +kernel
theorem d_law_276 : decode code 276 = .ok (.iadd, 1) := by decide +kernel
theorem d_law_277 : decode code 277 = .ok (.iaload, 1) := by decide +kernel
theorem d_law_278 : decode code 278 = .ok (.invokevirtual 27, 3) := by decide +kernel
theorem d_law_281 : decode code 281 = .ok (.aload_n 2, 1) := by decide +kernel
theorem d_law_282 : decode code 282 = .ok (.aload_n 0, 1) := by decide +kernel
theorem d_law_283 : decode code 283 = .ok (.iload_n 3, 1) := by decide +kernel
theorem d_law_284 : decode code 284 = .ok (.iconst 1, 1) := by decide +kernel
theorem d_law_285 : decode code 285 = .ok (.iadd, 1) := by decide +kernel
theorem d_law_286 : decode code 286 = .ok (.iaload, 1) := by decide +kernel
theorem d_law_287 : decode code 287 = .ok (.aload_n 0, 1) := by decide +kernel
theorem d_law_288 : decode code 288 = .ok (.iload_n 3, 1) := by decide +kernel
theorem d_law_289 : decode code 289 = .ok (.iconst 2, 1) := by decide +kernel
theorem d_law_290 : decode code 290 = .ok (.iadd, 1) := by decide +kernel
theorem d_law_291 : decode code 291 = .ok (.iaload, 1) := by decide +kernel
theorem d_law_292 : decode code 292 = .ok (.invokevirtual 30, 3) := by decide +kernel
theorem d_law_295 : decode code 295 = .ok (.if_icmp .eq 1001, 3) := by decide +kernel
theorem d_law_298 : decode code 298 = .ok (.iconst 0, 1) := by decide +kernel
theorem d_law_299 : decode code 299 = .ok (.ireturn, 1) := by decide +kernel
theorem d_law_300 : decode code 300 = .ok (.aload_n 1, 1) := by decide +kernel
theorem d_law_301 : decode code 301 = .ok (.aload_n 0, 1) := by decide +kernel
theorem d_law_302 : decode code 302 = .ok (.iload_n 3, 1) := by decide +kernel
theorem d_law_303 : decode code 303 = .ok (.iconst 1, 1) := by decide +kernel
theorem d_law_304 : decode code 304 = .ok (.iadd, 1) := by decide +kernel
theorem d_law_305 : decode code 305 = .ok (.iaload, 1) := by decide +kernel
theorem d_law_306 : decode code 306 = .ok (.aload_n 0, 1) := by decide +kernel
theorem d_law_307 : decode code 307 = .ok (.iload_n 3, 1) := by decide +kernel
theorem d_law_308 : decode code 308 = .ok (.iconst 2, 1) := by decide +kernel
theorem d_law_309 : decode code 309 = .ok (.iadd, 1) := by decide +kernel
theorem d_law_310 : decode code 310 = .ok (.iaload, 1) := by decide +kernel
theorem d_law_311 : decode code 311 = .ok (.aload_n 0, 1) := by decide +kernel
theorem d_law_312 : decode code 312 = .ok (.iload_n 3, 1) := by decide +kernel
theorem d_law_313 : decode code 313 = .ok (.iconst 3, 1) := by decide +kernel
theorem d_law_314 : decode code 314 = .ok (.iadd, 1) := by decide +kernel
theorem d_law_315 : decode code 315 = .ok (.iaload, 1) := by decide +kernel
theorem d_law_316 : decode code 316 = .ok (.invokevirtual 31, 3) := by decide +kernel
theorem d_law_319 : decode code 319 = .ok (.aload_n 2, 1) := by decide +kernel
theorem d_law_320 : decode code 320 = .ok (.aload_n 0, 1) := by decide +kernel
theorem d_law_321 : decode code 321 = .ok (.iload_n 3, 1) := by decide +kernel
theorem d_law_322 : decode code 322 = .ok (.iconst 1, 1) := by decide +kernel
theorem d_law_323 : decode code 323 = .ok (.iadd, 1) := by decide +kernel
theorem d_law_324 : decode code 324 = .ok (.iaload, 1) := by decide +kernel
theorem d_law_325 : decode code 325 = .ok (.aload_n 0, 1) := by decide +kernel
theorem d_law_326 : decode code 326 = .ok (.iload_n 3, 1) := by decide +kernel
theorem d_law_327 : decode code 327 = .ok (.iconst 2, 1) := by decide +kernel
theorem d_law_328 : decode code 328 = .ok (.iadd, 1) := by decide +kernel
theorem d_law_329 : decode code 329 = .ok (.iaload, 1) := by decide +kernel
theorem d_law_330 : decode code 330 = .ok (.aload_n 0, 1) := by decide +kernel
theorem d_law_331 : decode code 331 = .ok (.iload_n 3, 1) := by decide +kernel
theorem d_law_332 : decode code 332 = .ok (.iconst 3, 1) := by decide +kernel
theorem d_law_333 : decode code 333 = .ok (.iadd, 1) := by decide +kernel
theorem d_law_334 : decode code 334 = .ok (.iaload, 1) := by decide +kernel
theorem d_law_335 : decode code 335 = .ok (.invokevirtual 35, 3) := by decide +kernel
theorem d_law_338 : decode code 338 = .ok (.if_icmp .eq 958, 3) := by decide +kernel
theorem d_law_341 : decode code 341 = .ok (.iconst 0, 1) := by decide +kernel
theorem d_law_342 : decode code 342 = .ok (.ireturn, 1) := by decide +kernel
theorem d_law_343 : decode code 343 = .ok (.aload_n 1, 1) := by decide +kernel
theorem d_law_344 : decode code 344 = .ok (.aload_n 0, 1) := by decide +kernel
theorem d_law_345 : decode code 345 = .ok (.iload_n 3, 1) := by decide +kernel
theorem d_law_346 : decode code 346 = .ok (.iconst 1, 1) := by decide +kernel
theorem d_law_347 : decode code 347 = .ok (.iadd, 1) := by decide +kernel
theorem d_law_348 : decode code 348 = .ok (.iaload, 1) := by decide +kernel
theorem d_law_349 : decode code 349 = .ok (.aload_n 0, 1) := by decide +kernel
theorem d_law_350 : decode code 350 = .ok (.iload_n 3, 1) := by decide +kernel
theorem d_law_351 : decode code 351 = .ok (.iconst 2, 1) := by decide +kernel
theorem d_law_352 : decode code 352 = .ok (.iadd, 1) := by decide +kernel
theorem d_law_353 : decode code 353 = .ok (.iaload, 1) := by decide +kernel
theorem d_law_354 : decode code 354 = .ok (.aload_n 0, 1) := by decide +kernel
theorem d_law_355 : decode code 355 = .ok (.iload_n 3, 1) := by decide +kernel
theorem d_law_356 : decode code 356 = .ok (.iconst 3, 1) := by decide +kernel
theorem d_law_357 : decode code 357 = .ok (.iadd, 1) := by decide +kernel
theorem d_law_358 : decode code 358 = .ok (.iaload, 1) := by decide +kernel
theorem d_law_359 : decode code 359 = .ok (.aload_n 0, 1) := by decide +kernel
theorem d_law_360 : decode code 360 = .ok (.iload_n 3, 1) := by decide +kernel
theorem d_law_361 : decode code 361 = .ok (.iconst 4, 1) := by decide +kernel
theorem d_law_362 : decode code 362 = .ok (.iadd, 1) := by decide +kernel
theorem d_law_363 : decode code 363 = .ok (.iaload, 1) := by decide +kernel
theorem d_law_364 : decode code 364 = .ok (.invokevirtual 36, 3) := by decide +kernel
theorem d_law_367 : decode code 367 = .ok (.aload_n 2, 1) := by decide +kernel
theorem d_law_368 : decode code 368 = .ok (.aload_n 0, 1) := by decide +kernel
theorem d_law_369 : decode code 369 = .ok (.iload_n 3, 1) := by decide +kernel
theorem d_law_370 : decode code 370 = .ok (.iconst 1, 1) := by decide +kernel
theorem d_law_371 : decode code 371 = .ok (.iadd, 1) := by decide +kernel
theorem d_law_372 : decode code 372 = .ok (.iaload, 1) := by decide +kernel
theorem d_law_373 : decode code 373 = .ok (.aload_n 0, 1) := by decide +kernel
theorem d_law_374 : decode code 374 = .ok (.iload_n 3, 1) := by decide +kernel
theorem d_law_375 : decode code 375 = .ok (.iconst 2, 1) := by decide +kernel
theorem d_law_376 : decode code 376 = .ok (.iadd, 1) := by decide +kernel
theorem d_law_377 : decode code 377 = .ok (.iaload, 1) := by decide +kernel
theorem d_law_378 : decode code 378 = .ok (.aload_n 0, 1) := by decide +kernel
theorem d_law_379 : decode code 379 = .ok (.iload_n 3, 1) := by decide +kernel
theorem d_law_380 : decode code 380 = .ok (.iconst 3, 1) := by decide +kernel
theorem d_law_381 : decode code 381 = .ok (.iadd, 1) := by decide +kernel
theorem d_law_382 : decode code 382 = .ok (.iaload, 1) := by decide +kernel
theorem d_law_383 : decode code 383 = .ok (.aload_n 0, 1) := by decide +kernel
theorem d_law_384 : decode code 384 = .ok (.iload_n 3, 1) := by decide +kernel
theorem d_law_385 : decode code 385 = .ok (.iconst 4, 1) := by decide +kernel
theorem d_law_386 : decode code 386 = .ok (.iadd, 1) := by decide +kernel
theorem d_law_387 : decode code 387 = .ok (.iaload, 1) := by decide +kernel
theorem d_law_388 : decode code 388 = .ok (.invokevirtual 40, 3) := by decide +kernel
theorem d_law_391 : decode code 391 = .ok (.lcmp, 1) := by decide +kernel
theorem d_law_392 : decode code 392 = .ok (.ifCond .eq 904, 3) := by decide +kernel
theorem d_law_395 : decode code 395 = .ok (.iconst 0, 1) := by decide +kernel
theorem d_law_396 : decode code 396 = .ok (.ireturn, 1) := by decide +kernel
theorem d_law_397 : decode code 397 = .ok (.aload_n 1, 1) := by decide +kernel
theorem d_law_398 : decode code 398 = .ok (.aload_n 0, 1) := by decide +kernel
theorem d_law_399 : decode code 399 = .ok (.iload_n 3, 1) := by decide +kernel
theorem d_law_400 : decode code 400 = .ok (.iconst 1, 1) := by decide +kernel
theorem d_law_401 : decode code 401 = .ok (.iadd, 1) := by decide +kernel
theorem d_law_402 : decode code 402 = .ok (.iaload, 1) := by decide +kernel
theorem d_law_403 : decode code 403 = .ok (.aload_n 0, 1) := by decide +kernel
theorem d_law_404 : decode code 404 = .ok (.iload_n 3, 1) := by decide +kernel
theorem d_law_405 : decode code 405 = .ok (.iconst 2, 1) := by decide +kernel
theorem d_law_406 : decode code 406 = .ok (.iadd, 1) := by decide +kernel
theorem d_law_407 : decode code 407 = .ok (.iaload, 1) := by decide +kernel
theorem d_law_408 : decode code 408 = .ok (.aload_n 0, 1) := by decide +kernel
theorem d_law_409 : decode code 409 = .ok (.iload_n 3, 1) := by decide +kernel
theorem d_law_410 : decode code 410 = .ok (.iconst 3, 1) := by decide +kernel
theorem d_law_411 : decode code 411 = .ok (.iadd, 1) := by decide +kernel
theorem d_law_412 : decode code 412 = .ok (.iaload, 1) := by decide +kernel
theorem d_law_413 : decode code 413 = .ok (.aload_n 0, 1) := by decide +kernel
theorem d_law_414 : decode code 414 = .ok (.iload_n 3, 1) := by decide +kernel
theorem d_law_415 : decode code 415 = .ok (.iconst 4, 1) := by decide +kernel
theorem d_law_416 : decode code 416 = .ok (.iadd, 1) := by decide +kernel
theorem d_law_417 : decode code 417 = .ok (.iaload, 1) := by decide +kernel
theorem d_law_418 : decode code 418 = .ok (.invokevirtual 41, 3) := by decide +kernel
theorem d_law_421 : decode code 421 = .ok (.aload_n 2, 1) := by decide +kernel
theorem d_law_422 : decode code 422 = .ok (.aload_n 0, 1) := by decide +kernel
theorem d_law_423 : decode code 423 = .ok (.iload_n 3, 1) := by decide +kernel
theorem d_law_424 : decode code 424 = .ok (.iconst 1, 1) := by decide +kernel
theorem d_law_425 : decode code 425 = .ok (.iadd, 1) := by decide +kernel
theorem d_law_426 : decode code 426 = .ok (.iaload, 1) := by decide +kernel
theorem d_law_427 : decode code 427 = .ok (.aload_n 0, 1) := by decide +kernel
theorem d_law_428 : decode code 428 = .ok (.iload_n 3, 1) := by decide +kernel
theorem d_law_429 : decode code 429 = .ok (.iconst 2, 1) := by decide +kernel
theorem d_law_430 : decode code 430 = .ok (.iadd, 1) := by decide +kernel
theorem d_law_431 : decode code 431 = .ok (.iaload, 1) := by decide +kernel
theorem d_law_432 : decode code 432 = .ok (.aload_n 0, 1) := by decide +kernel
theorem d_law_433 : decode code 433 = .ok (.iload_n 3, 1) := by decide +kernel
theorem d_law_434 : decode code 434 = .ok (.iconst 3, 1) := by decide +kernel
theorem d_law_435 : decode code 435 = .ok (.iadd, 1) := by decide +kernel
theorem d_law_436 : decode code 436 = .ok (.iaload, 1) := by decide +kernel
theorem d_law_437 : decode code 437 = .ok (.aload_n 0, 1) := by decide +kernel
theorem d_law_438 : decode code 438 = .ok (.iload_n 3, 1) := by decide +kernel
theorem d_law_439 : decode code 439 = .ok (.iconst 4, 1) := by decide +kernel
theorem d_law_440 : decode code 440 = .ok (.iadd, 1) := by decide +kernel
theorem d_law_441 : decode code 441 = .ok (.iaload, 1) := by decide +kernel
theorem d_law_442 : decode code 442 = .ok (.invokevirtual 45, 3) := by decide +kernel
theorem d_law_445 : decode code 445 = .ok (.if_icmp .eq 851, 3) := by decide +kernel
theorem d_law_448 : decode code 448 = .ok (.iconst 0, 1) := by decide +kernel
theorem d_law_449 : decode code 449 = .ok (.ireturn, 1) := by decide +kernel
theorem d_law_450 : decode code 450 = .ok (.aload_n 1, 1) := by decide +kernel
theorem d_law_451 : decode code 451 = .ok (.aload_n 0, 1) := by decide +kernel
theorem d_law_452 : decode code 452 = .ok (.iload_n 3, 1) := by decide +kernel
theorem d_law_453 : decode code 453 = .ok (.iconst 1, 1) := by decide +kernel
theorem d_law_454 : decode code 454 = .ok (.iadd, 1) := by decide +kernel
theorem d_law_455 : decode code 455 = .ok (.iaload, 1) := by decide +kernel
theorem d_law_456 : decode code 456 = .ok (.aload_n 0, 1) := by decide +kernel
theorem d_law_457 : decode code 457 = .ok (.iload_n 3, 1) := by decide +kernel
theorem d_law_458 : decode code 458 = .ok (.iconst 2, 1) := by decide +kernel
theorem d_law_459 : decode code 459 = .ok (.iadd, 1) := by decide +kernel
theorem d_law_460 : decode code 460 = .ok (.iaload, 1) := by decide +kernel
theorem d_law_461 : decode code 461 = .ok (.invokevirtual 46, 3) := by decide +kernel
theorem d_law_464 : decode code 464 = .ok (.aload_n 2, 1) := by decide +kernel
theorem d_law_465 : decode code 465 = .ok (.aload_n 0, 1) := by decide +kernel
theorem d_law_466 : decode code 466 = .ok (.iload_n 3, 1) := by decide +kernel
theorem d_law_467 : decode code 467 = .ok (.iconst 1, 1) := by decide +kernel
theorem d_law_468 : decode code 468 = .ok (.iadd, 1) := by decide +kernel
theorem d_law_469 : decode code 469 = .ok (.iaload, 1) := by decide +kernel
theorem d_law_470 : decode code 470 = .ok (.aload_n 0, 1) := by decide +kernel
theorem d_law_471 : decode code 471 = .ok (.iload_n 3, 1) := by decide +kernel
theorem d_law_472 : decode code 472 = .ok (.iconst 2, 1) := by decide +kernel
theorem d_law_473 : decode code 473 = .ok (.iadd, 1) := by decide +kernel
theorem d_law_474 : decode code 474 = .ok (.iaload, 1) := by decide +kernel
theorem d_law_475 : decode code 475 = .ok (.invokevirtual 49, 3) := by decide +kernel
theorem d_law_478 : decode code 478 = .ok (.if_icmp .eq 818, 3) := by decide +kernel
theorem d_law_481 : decode code 481 = .ok (.iconst 0, 1) := by decide +kernel
theorem d_law_482 : decode code 482 = .ok (.ireturn, 1) := by decide +kernel
theorem d_law_483 : decode code 483 = .ok (.aload_n 1, 1) := by decide +kernel
theorem d_law_484 : decode code 484 = .ok (.aload_n 0, 1) := by decide +kernel
theorem d_law_485 : decode code 485 = .ok (.iload_n 3, 1) := by decide +kernel
theorem d_law_486 : decode code 486 = .ok (.iconst 1, 1) := by decide +kernel
theorem d_law_487 : decode code 487 = .ok (.iadd, 1) := by decide +kernel
theorem d_law_488 : decode code 488 = .ok (.iaload, 1) := by decide +kernel
theorem d_law_489 : decode code 489 = .ok (.aload_n 0, 1) := by decide +kernel
theorem d_law_490 : decode code 490 = .ok (.iload_n 3, 1) := by decide +kernel
theorem d_law_491 : decode code 491 = .ok (.iconst 2, 1) := by decide +kernel
theorem d_law_492 : decode code 492 = .ok (.iadd, 1) := by decide +kernel
theorem d_law_493 : decode code 493 = .ok (.iaload, 1) := by decide +kernel
theorem d_law_494 : decode code 494 = .ok (.aload_n 0, 1) := by decide +kernel
theorem d_law_495 : decode code 495 = .ok (.iload_n 3, 1) := by decide +kernel
theorem d_law_496 : decode code 496 = .ok (.iconst 3, 1) := by decide +kernel
theorem d_law_497 : decode code 497 = .ok (.iadd, 1) := by decide +kernel
theorem d_law_498 : decode code 498 = .ok (.iaload, 1) := by decide +kernel
theorem d_law_499 : decode code 499 = .ok (.aload_n 0, 1) := by decide +kernel
theorem d_law_500 : decode code 500 = .ok (.iload_n 3, 1) := by decide +kernel
theorem d_law_501 : decode code 501 = .ok (.iconst 4, 1) := by decide +kernel
theorem d_law_502 : decode code 502 = .ok (.iadd, 1) := by decide +kernel
theorem d_law_503 : decode code 503 = .ok (.iaload, 1) := by decide +kernel
theorem d_law_504 : decode code 504 = .ok (.aload_n 0, 1) := by decide +kernel
theorem d_law_505 : decode code 505 = .ok (.iload_n 3, 1) := by decide +kernel
theorem d_law_506 : decode code 506 = .ok (.iconst 5, 1) := by decide +kernel
theorem d_law_507 : decode code 507 = .ok (.iadd, 1) := by decide +kernel
theorem d_law_508 : decode code 508 = .ok (.iaload, 1) := by decide +kernel
theorem d_law_509 : decode code 509 = .ok (.invokevirtual 50, 3) := by decide +kernel
theorem d_law_512 : decode code 512 = .ok (.aload_n 2, 1) := by decide +kernel
theorem d_law_513 : decode code 513 = .ok (.aload_n 0, 1) := by decide +kernel
theorem d_law_514 : decode code 514 = .ok (.iload_n 3, 1) := by decide +kernel
theorem d_law_515 : decode code 515 = .ok (.iconst 1, 1) := by decide +kernel
theorem d_law_516 : decode code 516 = .ok (.iadd, 1) := by decide +kernel
theorem d_law_517 : decode code 517 = .ok (.iaload, 1) := by decide +kernel
theorem d_law_518 : decode code 518 = .ok (.aload_n 0, 1) := by decide +kernel
theorem d_law_519 : decode code 519 = .ok (.iload_n 3, 1) := by decide +kernel
theorem d_law_520 : decode code 520 = .ok (.iconst 2, 1) := by decide +kernel
theorem d_law_521 : decode code 521 = .ok (.iadd, 1) := by decide +kernel
theorem d_law_522 : decode code 522 = .ok (.iaload, 1) := by decide +kernel
theorem d_law_523 : decode code 523 = .ok (.aload_n 0, 1) := by decide +kernel
theorem d_law_524 : decode code 524 = .ok (.iload_n 3, 1) := by decide +kernel
theorem d_law_525 : decode code 525 = .ok (.iconst 3, 1) := by decide +kernel
theorem d_law_526 : decode code 526 = .ok (.iadd, 1) := by decide +kernel
theorem d_law_527 : decode code 527 = .ok (.iaload, 1) := by decide +kernel
theorem d_law_528 : decode code 528 = .ok (.aload_n 0, 1) := by decide +kernel
theorem d_law_529 : decode code 529 = .ok (.iload_n 3, 1) := by decide +kernel
theorem d_law_530 : decode code 530 = .ok (.iconst 4, 1) := by decide +kernel
theorem d_law_531 : decode code 531 = .ok (.iadd, 1) := by decide +kernel
theorem d_law_532 : decode code 532 = .ok (.iaload, 1) := by decide +kernel
theorem d_law_533 : decode code 533 = .ok (.aload_n 0, 1) := by decide +kernel
theorem d_law_534 : decode code 534 = .ok (.iload_n 3, 1) := by decide +kernel
theorem d_law_535 : decode code 535 = .ok (.iconst 5, 1) := by decide +kernel
theorem d_law_536 : decode code 536 = .ok (.iadd, 1) := by decide +kernel
theorem d_law_537 : decode code 537 = .ok (.iaload, 1) := by decide +kernel
theorem d_law_538 : decode code 538 = .ok (.invokevirtual 54, 3) := by decide +kernel
theorem d_law_541 : decode code 541 = .ok (.if_icmp .eq 755, 3) := by decide +kernel
theorem d_law_544 : decode code 544 = .ok (.iconst 0, 1) := by decide +kernel
theorem d_law_545 : decode code 545 = .ok (.ireturn, 1) := by decide +kernel
theorem d_law_546 : decode code 546 = .ok (.aload_n 1, 1) := by decide +kernel
theorem d_law_547 : decode code 547 = .ok (.aload_n 0, 1) := by decide +kernel
theorem d_law_548 : decode code 548 = .ok (.iload_n 3, 1) := by decide +kernel
theorem d_law_549 : decode code 549 = .ok (.iconst 1, 1) := by decide +kernel
theorem d_law_550 : decode code 550 = .ok (.iadd, 1) := by decide +kernel
theorem d_law_551 : decode code 551 = .ok (.iaload, 1) := by decide +kernel
theorem d_law_552 : decode code 552 = .ok (.aload_n 0, 1) := by decide +kernel
theorem d_law_553 : decode code 553 = .ok (.iload_n 3, 1) := by decide +kernel
theorem d_law_554 : decode code 554 = .ok (.iconst 2, 1) := by decide +kernel
theorem d_law_555 : decode code 555 = .ok (.iadd, 1) := by decide +kernel
theorem d_law_556 : decode code 556 = .ok (.iaload, 1) := by decide +kernel
theorem d_law_557 : decode code 557 = .ok (.invokevirtual 55, 3) := by decide +kernel
theorem d_law_560 : decode code 560 = .ok (.aload_n 2, 1) := by decide +kernel
theorem d_law_561 : decode code 561 = .ok (.aload_n 0, 1) := by decide +kernel
theorem d_law_562 : decode code 562 = .ok (.iload_n 3, 1) := by decide +kernel
theorem d_law_563 : decode code 563 = .ok (.iconst 1, 1) := by decide +kernel
theorem d_law_564 : decode code 564 = .ok (.iadd, 1) := by decide +kernel
theorem d_law_565 : decode code 565 = .ok (.iaload, 1) := by decide +kernel
theorem d_law_566 : decode code 566 = .ok (.aload_n 0, 1) := by decide +kernel
theorem d_law_567 : decode code 567 = .ok (.iload_n 3, 1) := by decide +kernel
theorem d_law_568 : decode code 568 = .ok (.iconst 2, 1) := by decide +kernel
theorem d_law_569 : decode code 569 = .ok (.iadd, 1) := by decide +kernel
theorem d_law_570 : decode code 570 = .ok (.iaload, 1) := by decide +kernel
theorem d_law_571 : decode code 571 = .ok (.invokevirtual 58, 3) := by decide +kernel
theorem d_law_574 : decode code 574 = .ok (.if_icmp .eq 722, 3) := by decide +kernel
theorem d_law_577 : decode code 577 = .ok (.iconst 0, 1) := by decide +kernel
theorem d_law_578 : decode code 578 = .ok (.ireturn, 1) := by decide +kernel
theorem d_law_579 : decode code 579 = .ok (.aload_n 1, 1) := by decide +kernel
theorem d_law_580 : decode code 580 = .ok (.invokevirtual 59, 3) := by decide +kernel
theorem d_law_583 : decode code 583 = .ok (.aload_n 2, 1) := by decide +kernel
theorem d_law_584 : decode code 584 = .ok (.invokevirtual 63, 3) := by decide +kernel
theorem d_law_587 : decode code 587 = .ok (.if_icmp .eq 709, 3) := by decide +kernel
theorem d_law_590 : decode code 590 = .ok (.iconst 0, 1) := by decide +kernel
theorem d_law_591 : decode code 591 = .ok (.ireturn, 1) := by decide +kernel
theorem d_law_592 : decode code 592 = .ok (.aload_n 1, 1) := by decide +kernel
theorem d_law_593 : decode code 593 = .ok (.aload_n 0, 1) := by decide +kernel
theorem d_law_594 : decode code 594 = .ok (.iload_n 3, 1) := by decide +kernel
theorem d_law_595 : decode code 595 = .ok (.iconst 1, 1) := by decide +kernel
theorem d_law_596 : decode code 596 = .ok (.iadd, 1) := by decide +kernel
theorem d_law_597 : decode code 597 = .ok (.iaload, 1) := by decide +kernel
theorem d_law_598 : decode code 598 = .ok (.aload_n 0, 1) := by decide +kernel
theorem d_law_599 : decode code 599 = .ok (.iload_n 3, 1) := by decide +kernel
theorem d_law_600 : decode code 600 = .ok (.iconst 2, 1) := by decide +kernel
theorem d_law_601 : decode code 601 = .ok (.iadd, 1) := by decide +kernel
theorem d_law_602 : decode code 602 = .ok (.iaload, 1) := by decide +kernel
theorem d_law_603 : decode code 603 = .ok (.aload_n 0, 1) := by decide +kernel
theorem d_law_604 : decode code 604 = .ok (.iload_n 3, 1) := by decide +kernel
theorem d_law_605 : decode code 605 = .ok (.iconst 3, 1) := by decide +kernel
theorem d_law_606 : decode code 606 = .ok (.iadd, 1) := by decide +kernel
theorem d_law_607 : decode code 607 = .ok (.iaload, 1) := by decide +kernel
theorem d_law_608 : decode code 608 = .ok (.invokevirtual 64, 3) := by decide +kernel
theorem d_law_611 : decode code 611 = .ok (.aload_n 2, 1) := by decide +kernel
theorem d_law_612 : decode code 612 = .ok (.aload_n 0, 1) := by decide +kernel
theorem d_law_613 : decode code 613 = .ok (.iload_n 3, 1) := by decide +kernel
theorem d_law_614 : decode code 614 = .ok (.iconst 1, 1) := by decide +kernel
theorem d_law_615 : decode code 615 = .ok (.iadd, 1) := by decide +kernel
theorem d_law_616 : decode code 616 = .ok (.iaload, 1) := by decide +kernel
theorem d_law_617 : decode code 617 = .ok (.aload_n 0, 1) := by decide +kernel
theorem d_law_618 : decode code 618 = .ok (.iload_n 3, 1) := by decide +kernel
theorem d_law_619 : decode code 619 = .ok (.iconst 2, 1) := by decide +kernel
theorem d_law_620 : decode code 620 = .ok (.iadd, 1) := by decide +kernel
theorem d_law_621 : decode code 621 = .ok (.iaload, 1) := by decide +kernel
theorem d_law_622 : decode code 622 = .ok (.aload_n 0, 1) := by decide +kernel
theorem d_law_623 : decode code 623 = .ok (.iload_n 3, 1) := by decide +kernel
theorem d_law_624 : decode code 624 = .ok (.iconst 3, 1) := by decide +kernel
theorem d_law_625 : decode code 625 = .ok (.iadd, 1) := by decide +kernel
theorem d_law_626 : decode code 626 = .ok (.iaload, 1) := by decide +kernel
theorem d_law_627 : decode code 627 = .ok (.invokevirtual 67, 3) := by decide +kernel
theorem d_law_630 : decode code 630 = .ok (.if_icmp .eq 666, 3) := by decide +kernel
theorem d_law_633 : decode code 633 = .ok (.iconst 0, 1) := by decide +kernel
theorem d_law_634 : decode code 634 = .ok (.ireturn, 1) := by decide +kernel
theorem d_law_635 : decode code 635 = .ok (.aload_n 1, 1) := by decide +kernel
theorem d_law_636 : decode code 636 = .ok (.invokevirtual 68, 3) := by decide +kernel
theorem d_law_639 : decode code 639 = .ok (.aload_n 2, 1) := by decide +kernel
theorem d_law_640 : decode code 640 = .ok (.invokevirtual 71, 3) := by decide +kernel
theorem d_law_643 : decode code 643 = .ok (.if_icmp .eq 653, 3) := by decide +kernel
theorem d_law_646 : decode code 646 = .ok (.iconst 0, 1) := by decide +kernel
theorem d_law_647 : decode code 647 = .ok (.ireturn, 1) := by decide +kernel
theorem d_law_648 : decode code 648 = .ok (.aload_n 1, 1) := by decide +kernel
theorem d_law_649 : decode code 649 = .ok (.aload_n 0, 1) := by decide +kernel
theorem d_law_650 : decode code 650 = .ok (.iload_n 3, 1) := by decide +kernel
theorem d_law_651 : decode code 651 = .ok (.iconst 1, 1) := by decide +kernel
theorem d_law_652 : decode code 652 = .ok (.iadd, 1) := by decide +kernel
theorem d_law_653 : decode code 653 = .ok (.iaload, 1) := by decide +kernel
theorem d_law_654 : decode code 654 = .ok (.invokevirtual 72, 3) := by decide +kernel
theorem d_law_657 : decode code 657 = .ok (.aload_n 2, 1) := by decide +kernel
theorem d_law_658 : decode code 658 = .ok (.aload_n 0, 1) := by decide +kernel
theorem d_law_659 : decode code 659 = .ok (.iload_n 3, 1) := by decide +kernel
theorem d_law_660 : decode code 660 = .ok (.iconst 1, 1) := by decide +kernel
theorem d_law_661 : decode code 661 = .ok (.iadd, 1) := by decide +kernel
theorem d_law_662 : decode code 662 = .ok (.iaload, 1) := by decide +kernel
theorem d_law_663 : decode code 663 = .ok (.invokevirtual 75, 3) := by decide +kernel
theorem d_law_666 : decode code 666 = .ok (.if_icmp .eq 630, 3) := by decide +kernel
theorem d_law_669 : decode code 669 = .ok (.iconst 0, 1) := by decide +kernel
theorem d_law_670 : decode code 670 = .ok (.ireturn, 1) := by decide +kernel
theorem d_law_671 : decode code 671 = .ok (.aload_n 1, 1) := by decide +kernel
theorem d_law_672 : decode code 672 = .ok (.aload_n 0, 1) := by decide +kernel
theorem d_law_673 : decode code 673 = .ok (.iload_n 3, 1) := by decide +kernel
theorem d_law_674 : decode code 674 = .ok (.iconst 1, 1) := by decide +kernel
theorem d_law_675 : decode code 675 = .ok (.iadd, 1) := by decide +kernel
theorem d_law_676 : decode code 676 = .ok (.iaload, 1) := by decide +kernel
theorem d_law_677 : decode code 677 = .ok (.aload_n 0, 1) := by decide +kernel
theorem d_law_678 : decode code 678 = .ok (.iload_n 3, 1) := by decide +kernel
theorem d_law_679 : decode code 679 = .ok (.iconst 2, 1) := by decide +kernel
theorem d_law_680 : decode code 680 = .ok (.iadd, 1) := by decide +kernel
theorem d_law_681 : decode code 681 = .ok (.iaload, 1) := by decide +kernel
theorem d_law_682 : decode code 682 = .ok (.invokevirtual 76, 3) := by decide +kernel
theorem d_law_685 : decode code 685 = .ok (.aload_n 2, 1) := by decide +kernel
theorem d_law_686 : decode code 686 = .ok (.aload_n 0, 1) := by decide +kernel
theorem d_law_687 : decode code 687 = .ok (.iload_n 3, 1) := by decide +kernel
theorem d_law_688 : decode code 688 = .ok (.iconst 1, 1) := by decide +kernel
theorem d_law_689 : decode code 689 = .ok (.iadd, 1) := by decide +kernel
theorem d_law_690 : decode code 690 = .ok (.iaload, 1) := by decide +kernel
theorem d_law_691 : decode code 691 = .ok (.aload_n 0, 1) := by decide +kernel
theorem d_law_692 : decode code 692 = .ok (.iload_n 3, 1) := by decide +kernel
theorem d_law_693 : decode code 693 = .ok (.iconst 2, 1) := by decide +kernel
theorem d_law_694 : decode code 694 = .ok (.iadd, 1) := by decide +kernel
theorem d_law_695 : decode code 695 = .ok (.iaload, 1) := by decide +kernel
theorem d_law_696 : decode code 696 = .ok (.invokevirtual 79, 3) := by decide +kernel
theorem d_law_699 : decode code 699 = .ok (.if_icmp .eq 597, 3) := by decide +kernel
theorem d_law_702 : decode code 702 = .ok (.iconst 0, 1) := by decide +kernel
theorem d_law_703 : decode code 703 = .ok (.ireturn, 1) := by decide +kernel
theorem d_law_704 : decode code 704 = .ok (.aload_n 1, 1) := by decide +kernel
theorem d_law_705 : decode code 705 = .ok (.aload_n 0, 1) := by decide +kernel
theorem d_law_706 : decode code 706 = .ok (.iload_n 3, 1) := by decide +kernel
theorem d_law_707 : decode code 707 = .ok (.iconst 1, 1) := by decide +kernel
theorem d_law_708 : decode code 708 = .ok (.iadd, 1) := by decide +kernel
theorem d_law_709 : decode code 709 = .ok (.iaload, 1) := by decide +kernel
theorem d_law_710 : decode code 710 = .ok (.aload_n 0, 1) := by decide +kernel
theorem d_law_711 : decode code 711 = .ok (.iload_n 3, 1) := by decide +kernel
theorem d_law_712 : decode code 712 = .ok (.iconst 2, 1) := by decide +kernel
theorem d_law_713 : decode code 713 = .ok (.iadd, 1) := by decide +kernel
theorem d_law_714 : decode code 714 = .ok (.iaload, 1) := by decide +kernel
theorem d_law_715 : decode code 715 = .ok (.invokevirtual 80, 3) := by decide +kernel
theorem d_law_718 : decode code 718 = .ok (.aload_n 2, 1) := by decide +kernel
theorem d_law_719 : decode code 719 = .ok (.aload_n 0, 1) := by decide +kernel
theorem d_law_720 : decode code 720 = .ok (.iload_n 3, 1) := by decide +kernel
theorem d_law_721 : decode code 721 = .ok (.iconst 1, 1) := by decide +kernel
theorem d_law_722 : decode code 722 = .ok (.iadd, 1) := by decide +kernel
theorem d_law_723 : decode code 723 = .ok (.iaload, 1) := by decide +kernel
theorem d_law_724 : decode code 724 = .ok (.aload_n 0, 1) := by decide +kernel
theorem d_law_725 : decode code 725 = .ok (.iload_n 3, 1) := by decide +kernel
theorem d_law_726 : decode code 726 = .ok (.iconst 2, 1) := by decide +kernel
theorem d_law_727 : decode code 727 = .ok (.iadd, 1) := by decide +kernel
theorem d_law_728 : decode code 728 = .ok (.iaload, 1) := by decide +kernel
theorem d_law_729 : decode code 729 = .ok (.invokevirtual 83, 3) := by decide +kernel
theorem d_law_732 : decode code 732 = .ok (.if_icmp .eq 564, 3) := by decide +kernel
theorem d_law_735 : decode code 735 = .ok (.iconst 0, 1) := by decide +kernel
theorem d_law_736 : decode code 736 = .ok (.ireturn, 1) := by decide +kernel
theorem d_law_737 : decode code 737 = .ok (.aload_n 1, 1) := by decide +kernel
theorem d_law_738 : decode code 738 = .ok (.invokevirtual 84, 3) := by decide +kernel
theorem d_law_741 : decode code 741 = .ok (.aload_n 2, 1) := by decide +kernel
theorem d_law_742 : decode code 742 = .ok (.invokevirtual 87, 3) := by decide +kernel
theorem d_law_745 : decode code 745 = .ok (.if_icmp .eq 551, 3) := by decide +kernel
theorem d_law_748 : decode code 748 = .ok (.iconst 0, 1) := by decide +kernel
theorem d_law_749 : decode code 749 = .ok (.ireturn, 1) := by decide +kernel
theorem d_law_750 : decode code 750 = .ok (.aload_n 1, 1) := by decide +kernel
theorem d_law_751 : decode code 751 = .ok (.aload_n 0, 1) := by decide +kernel
theorem d_law_752 : decode code 752 = .ok (.iload_n 3, 1) := by decide +kernel
theorem d_law_753 : decode code 753 = .ok (.iconst 1, 1) := by decide +kernel
theorem d_law_754 : decode code 754 = .ok (.iadd, 1) := by decide +kernel
theorem d_law_755 : decode code 755 = .ok (.iaload, 1) := by decide +kernel
theorem d_law_756 : decode code 756 = .ok (.invokevirtual 88, 3) := by decide +kernel
theorem d_law_759 : decode code 759 = .ok (.aload_n 2, 1) := by decide +kernel
theorem d_law_760 : decode code 760 = .ok (.aload_n 0, 1) := by decide +kernel
theorem d_law_761 : decode code 761 = .ok (.iload_n 3, 1) := by decide +kernel
theorem d_law_762 : decode code 762 = .ok (.iconst 1, 1) := by decide +kernel
theorem d_law_763 : decode code 763 = .ok (.iadd, 1) := by decide +kernel
theorem d_law_764 : decode code 764 = .ok (.iaload, 1) := by decide +kernel
theorem d_law_765 : decode code 765 = .ok (.invokevirtual 91, 3) := by decide +kernel
theorem d_law_768 : decode code 768 = .ok (.if_icmp .eq 528, 3) := by decide +kernel
theorem d_law_771 : decode code 771 = .ok (.iconst 0, 1) := by decide +kernel
theorem d_law_772 : decode code 772 = .ok (.ireturn, 1) := by decide +kernel
theorem d_law_773 : decode code 773 = .ok (.aload_n 1, 1) := by decide +kernel
theorem d_law_774 : decode code 774 = .ok (.aload_n 0, 1) := by decide +kernel
theorem d_law_775 : decode code 775 = .ok (.iload_n 3, 1) := by decide +kernel
theorem d_law_776 : decode code 776 = .ok (.iconst 1, 1) := by decide +kernel
theorem d_law_777 : decode code 777 = .ok (.iadd, 1) := by decide +kernel
theorem d_law_778 : decode code 778 = .ok (.iaload, 1) := by decide +kernel
theorem d_law_779 : decode code 779 = .ok (.aload_n 0, 1) := by decide +kernel
theorem d_law_780 : decode code 780 = .ok (.iload_n 3, 1) := by decide +kernel
theorem d_law_781 : decode code 781 = .ok (.iconst 2, 1) := by decide +kernel
theorem d_law_782 : decode code 782 = .ok (.iadd, 1) := by decide +kernel
theorem d_law_783 : decode code 783 = .ok (.iaload, 1) := by decide +kernel
theorem d_law_784 : decode code 784 = .ok (.invokevirtual 92, 3) := by decide +kernel
theorem d_law_787 : decode code 787 = .ok (.aload_n 2, 1) := by decide +kernel
theorem d_law_788 : decode code 788 = .ok (.aload_n 0, 1) := by decide +kernel
theorem d_law_789 : decode code 789 = .ok (.iload_n 3, 1) := by decide +kernel
theorem d_law_790 : decode code 790 = .ok (.iconst 1, 1) := by decide +kernel
theorem d_law_791 : decode code 791 = .ok (.iadd, 1) := by decide +kernel
theorem d_law_792 : decode code 792 = .ok (.iaload, 1) := by decide +kernel
theorem d_law_793 : decode code 793 = .ok (.aload_n 0, 1) := by decide +kernel
theorem d_law_794 : decode code 794 = .ok (.iload_n 3, 1) := by decide +kernel
theorem d_law_795 : decode code 795 = .ok (.iconst 2, 1) := by decide +kernel
theorem d_law_796 : decode code 796 = .ok (.iadd, 1) := by decide +kernel
theorem d_law_797 : decode code 797 = .ok (.iaload, 1) := by decide +kernel
theorem d_law_798 : decode code 798 = .ok (.invokevirtual 95, 3) := by decide +kernel
theorem d_law_801 : decode code 801 = .ok (.if_icmp .eq 495, 3) := by decide +kernel
theorem d_law_804 : decode code 804 = .ok (.iconst 0, 1) := by decide +kernel
theorem d_law_805 : decode code 805 = .ok (.ireturn, 1) := by decide +kernel
theorem d_law_806 : decode code 806 = .ok (.aload_n 1, 1) := by decide +kernel
theorem d_law_807 : decode code 807 = .ok (.invokevirtual 96, 3) := by decide +kernel
theorem d_law_810 : decode code 810 = .ok (.aload_n 2, 1) := by decide +kernel
theorem d_law_811 : decode code 811 = .ok (.invokevirtual 99, 3) := by decide +kernel
theorem d_law_814 : decode code 814 = .ok (.if_icmp .eq 482, 3) := by decide +kernel
theorem d_law_817 : decode code 817 = .ok (.iconst 0, 1) := by decide +kernel
theorem d_law_818 : decode code 818 = .ok (.ireturn, 1) := by decide +kernel
theorem d_law_819 : decode code 819 = .ok (.aload_n 1, 1) := by decide +kernel
theorem d_law_820 : decode code 820 = .ok (.aload_n 0, 1) := by decide +kernel
theorem d_law_821 : decode code 821 = .ok (.iload_n 3, 1) := by decide +kernel
theorem d_law_822 : decode code 822 = .ok (.iconst 1, 1) := by decide +kernel
theorem d_law_823 : decode code 823 = .ok (.iadd, 1) := by decide +kernel
theorem d_law_824 : decode code 824 = .ok (.iaload, 1) := by decide +kernel
theorem d_law_825 : decode code 825 = .ok (.invokevirtual 100, 3) := by decide +kernel
theorem d_law_828 : decode code 828 = .ok (.aload_n 2, 1) := by decide +kernel
theorem d_law_829 : decode code 829 = .ok (.aload_n 0, 1) := by decide +kernel
theorem d_law_830 : decode code 830 = .ok (.iload_n 3, 1) := by decide +kernel
theorem d_law_831 : decode code 831 = .ok (.iconst 1, 1) := by decide +kernel
theorem d_law_832 : decode code 832 = .ok (.iadd, 1) := by decide +kernel
theorem d_law_833 : decode code 833 = .ok (.iaload, 1) := by decide +kernel
theorem d_law_834 : decode code 834 = .ok (.invokevirtual 103, 3) := by decide +kernel
theorem d_law_837 : decode code 837 = .ok (.if_icmp .eq 459, 3) := by decide +kernel
theorem d_law_840 : decode code 840 = .ok (.iconst 0, 1) := by decide +kernel
theorem d_law_841 : decode code 841 = .ok (.ireturn, 1) := by decide +kernel
theorem d_law_842 : decode code 842 = .ok (.aload_n 1, 1) := by decide +kernel
theorem d_law_843 : decode code 843 = .ok (.aload_n 0, 1) := by decide +kernel
theorem d_law_844 : decode code 844 = .ok (.iload_n 3, 1) := by decide +kernel
theorem d_law_845 : decode code 845 = .ok (.iconst 1, 1) := by decide +kernel
theorem d_law_846 : decode code 846 = .ok (.iadd, 1) := by decide +kernel
theorem d_law_847 : decode code 847 = .ok (.iaload, 1) := by decide +kernel
theorem d_law_848 : decode code 848 = .ok (.invokevirtual 104, 3) := by decide +kernel
theorem d_law_851 : decode code 851 = .ok (.aload_n 2, 1) := by decide +kernel
theorem d_law_852 : decode code 852 = .ok (.aload_n 0, 1) := by decide +kernel
theorem d_law_853 : decode code 853 = .ok (.iload_n 3, 1) := by decide +kernel
theorem d_law_854 : decode code 854 = .ok (.iconst 1, 1) := by decide +kernel
theorem d_law_855 : decode code 855 = .ok (.iadd, 1) := by decide +kernel
theorem d_law_856 : decode code 856 = .ok (.iaload, 1) := by decide +kernel
theorem d_law_857 : decode code 857 = .ok (.invokevirtual 107, 3) := by decide +kernel
theorem d_law_860 : decode code 860 = .ok (.if_icmp .eq 436, 3) := by decide +kernel
theorem d_law_863 : decode code 863 = .ok (.iconst 0, 1) := by decide +kernel
theorem d_law_864 : decode code 864 = .ok (.ireturn, 1) := by decide +kernel
theorem d_law_865 : decode code 865 = .ok (.aload_n 1, 1) := by decide +kernel
theorem d_law_866 : decode code 866 = .ok (.invokevirtual 108, 3) := by decide +kernel
theorem d_law_869 : decode code 869 = .ok (.aload_n 2, 1) := by decide +kernel
theorem d_law_870 : decode code 870 = .ok (.invokevirtual 111, 3) := by decide +kernel
theorem d_law_873 : decode code 873 = .ok (.if_icmp .eq 423, 3) := by decide +kernel
theorem d_law_876 : decode code 876 = .ok (.iconst 0, 1) := by decide +kernel
theorem d_law_877 : decode code 877 = .ok (.ireturn, 1) := by decide +kernel
theorem d_law_878 : decode code 878 = .ok (.aload_n 1, 1) := by decide +kernel
theorem d_law_879 : decode code 879 = .ok (.aload_n 0, 1) := by decide +kernel
theorem d_law_880 : decode code 880 = .ok (.iload_n 3, 1) := by decide +kernel
theorem d_law_881 : decode code 881 = .ok (.iconst 1, 1) := by decide +kernel
theorem d_law_882 : decode code 882 = .ok (.iadd, 1) := by decide +kernel
theorem d_law_883 : decode code 883 = .ok (.iaload, 1) := by decide +kernel
theorem d_law_884 : decode code 884 = .ok (.aload_n 0, 1) := by decide +kernel
theorem d_law_885 : decode code 885 = .ok (.iload_n 3, 1) := by decide +kernel
theorem d_law_886 : decode code 886 = .ok (.iconst 2, 1) := by decide +kernel
theorem d_law_887 : decode code 887 = .ok (.iadd, 1) := by decide +kernel
theorem d_law_888 : decode code 888 = .ok (.iaload, 1) := by decide +kernel
theorem d_law_889 : decode code 889 = .ok (.aload_n 0, 1) := by decide +kernel
theorem d_law_890 : decode code 890 = .ok (.iload_n 3, 1) := by decide +kernel
theorem d_law_891 : decode code 891 = .ok (.iconst 3, 1) := by decide +kernel
theorem d_law_892 : decode code 892 = .ok (.iadd, 1) := by decide +kernel
theorem d_law_893 : decode code 893 = .ok (.iaload, 1) := by decide +kernel
theorem d_law_894 : decode code 894 = .ok (.aload_n 0, 1) := by decide +kernel
theorem d_law_895 : decode code 895 = .ok (.iload_n 3, 1) := by decide +kernel
theorem d_law_896 : decode code 896 = .ok (.iconst 4, 1) := by decide +kernel
theorem d_law_897 : decode code 897 = .ok (.iadd, 1) := by decide +kernel
theorem d_law_898 : decode code 898 = .ok (.iaload, 1) := by decide +kernel
theorem d_law_899 : decode code 899 = .ok (.invokevirtual 112, 3) := by decide +kernel
theorem d_law_902 : decode code 902 = .ok (.aload_n 2, 1) := by decide +kernel
theorem d_law_903 : decode code 903 = .ok (.aload_n 0, 1) := by decide +kernel
theorem d_law_904 : decode code 904 = .ok (.iload_n 3, 1) := by decide +kernel
theorem d_law_905 : decode code 905 = .ok (.iconst 1, 1) := by decide +kernel
theorem d_law_906 : decode code 906 = .ok (.iadd, 1) := by decide +kernel
theorem d_law_907 : decode code 907 = .ok (.iaload, 1) := by decide +kernel
theorem d_law_908 : decode code 908 = .ok (.aload_n 0, 1) := by decide +kernel
theorem d_law_909 : decode code 909 = .ok (.iload_n 3, 1) := by decide +kernel
theorem d_law_910 : decode code 910 = .ok (.iconst 2, 1) := by decide +kernel
theorem d_law_911 : decode code 911 = .ok (.iadd, 1) := by decide +kernel
theorem d_law_912 : decode code 912 = .ok (.iaload, 1) := by decide +kernel
theorem d_law_913 : decode code 913 = .ok (.aload_n 0, 1) := by decide +kernel
theorem d_law_914 : decode code 914 = .ok (.iload_n 3, 1) := by decide +kernel
theorem d_law_915 : decode code 915 = .ok (.iconst 3, 1) := by decide +kernel
theorem d_law_916 : decode code 916 = .ok (.iadd, 1) := by decide +kernel
theorem d_law_917 : decode code 917 = .ok (.iaload, 1) := by decide +kernel
theorem d_law_918 : decode code 918 = .ok (.aload_n 0, 1) := by decide +kernel
theorem d_law_919 : decode code 919 = .ok (.iload_n 3, 1) := by decide +kernel
theorem d_law_920 : decode code 920 = .ok (.iconst 4, 1) := by decide +kernel
theorem d_law_921 : decode code 921 = .ok (.iadd, 1) := by decide +kernel
theorem d_law_922 : decode code 922 = .ok (.iaload, 1) := by decide +kernel
theorem d_law_923 : decode code 923 = .ok (.invokevirtual 115, 3) := by decide +kernel
theorem d_law_926 : decode code 926 = .ok (.if_icmp .eq 370, 3) := by decide +kernel
theorem d_law_929 : decode code 929 = .ok (.iconst 0, 1) := by decide +kernel
theorem d_law_930 : decode code 930 = .ok (.ireturn, 1) := by decide +kernel
theorem d_law_931 : decode code 931 = .ok (.aload_n 1, 1) := by decide +kernel
theorem d_law_932 : decode code 932 = .ok (.aload_n 0, 1) := by decide +kernel
theorem d_law_933 : decode code 933 = .ok (.iload_n 3, 1) := by decide +kernel
theorem d_law_934 : decode code 934 = .ok (.iconst 1, 1) := by decide +kernel
theorem d_law_935 : decode code 935 = .ok (.iadd, 1) := by decide +kernel
theorem d_law_936 : decode code 936 = .ok (.iaload, 1) := by decide +kernel
theorem d_law_937 : decode code 937 = .ok (.invokevirtual 116, 3) := by decide +kernel
theorem d_law_940 : decode code 940 = .ok (.aload_n 2, 1) := by decide +kernel
theorem d_law_941 : decode code 941 = .ok (.aload_n 0, 1) := by decide +kernel
theorem d_law_942 : decode code 942 = .ok (.iload_n 3, 1) := by decide +kernel
theorem d_law_943 : decode code 943 = .ok (.iconst 1, 1) := by decide +kernel
theorem d_law_944 : decode code 944 = .ok (.iadd, 1) := by decide +kernel
theorem d_law_945 : decode code 945 = .ok (.iaload, 1) := by decide +kernel
theorem d_law_946 : decode code 946 = .ok (.invokevirtual 119, 3) := by decide +kernel
theorem d_law_949 : decode code 949 = .ok (.if_icmp .eq 347, 3) := by decide +kernel
theorem d_law_952 : decode code 952 = .ok (.iconst 0, 1) := by decide +kernel
theorem d_law_953 : decode code 953 = .ok (.ireturn, 1) := by decide +kernel
theorem d_law_954 : decode code 954 = .ok (.aload_n 1, 1) := by decide +kernel
theorem d_law_955 : decode code 955 = .ok (.invokevirtual 120, 3) := by decide +kernel
theorem d_law_958 : decode code 958 = .ok (.aload_n 2, 1) := by decide +kernel
theorem d_law_959 : decode code 959 = .ok (.invokevirtual 123, 3) := by decide +kernel
theorem d_law_962 : decode code 962 = .ok (.if_icmp .eq 334, 3) := by decide +kernel
theorem d_law_965 : decode code 965 = .ok (.iconst 0, 1) := by decide +kernel
theorem d_law_966 : decode code 966 = .ok (.ireturn, 1) := by decide +kernel
theorem d_law_967 : decode code 967 = .ok (.aload_n 1, 1) := by decide +kernel
theorem d_law_968 : decode code 968 = .ok (.aload_n 0, 1) := by decide +kernel
theorem d_law_969 : decode code 969 = .ok (.iload_n 3, 1) := by decide +kernel
theorem d_law_970 : decode code 970 = .ok (.iconst 1, 1) := by decide +kernel
theorem d_law_971 : decode code 971 = .ok (.iadd, 1) := by decide +kernel
theorem d_law_972 : decode code 972 = .ok (.iaload, 1) := by decide +kernel
theorem d_law_973 : decode code 973 = .ok (.aload_n 0, 1) := by decide +kernel
theorem d_law_974 : decode code 974 = .ok (.iload_n 3, 1) := by decide +kernel
theorem d_law_975 : decode code 975 = .ok (.iconst 2, 1) := by decide +kernel
theorem d_law_976 : decode code 976 = .ok (.iadd, 1) := by decide +kernel
theorem d_law_977 : decode code 977 = .ok (.iaload, 1) := by decide +kernel
theorem d_law_978 : decode code 978 = .ok (.aload_n 0, 1) := by decide +kernel
theorem d_law_979 : decode code 979 = .ok (.iload_n 3, 1) := by decide +kernel
theorem d_law_980 : decode code 980 = .ok (.iconst 3, 1) := by decide +kernel
theorem d_law_981 : decode code 981 = .ok (.iadd, 1) := by decide +kernel
theorem d_law_982 : decode code 982 = .ok (.iaload, 1) := by decide +kernel
theorem d_law_983 : decode code 983 = .ok (.invokevirtual 124, 3) := by decide +kernel
theorem d_law_986 : decode code 986 = .ok (.aload_n 2, 1) := by decide +kernel
theorem d_law_987 : decode code 987 = .ok (.aload_n 0, 1) := by decide +kernel
theorem d_law_988 : decode code 988 = .ok (.iload_n 3, 1) := by decide +kernel
theorem d_law_989 : decode code 989 = .ok (.iconst 1, 1) := by decide +kernel
theorem d_law_990 : decode code 990 = .ok (.iadd, 1) := by decide +kernel
theorem d_law_991 : decode code 991 = .ok (.iaload, 1) := by decide +kernel
theorem d_law_992 : decode code 992 = .ok (.aload_n 0, 1) := by decide +kernel
theorem d_law_993 : decode code 993 = .ok (.iload_n 3, 1) := by decide +kernel
theorem d_law_994 : decode code 994 = .ok (.iconst 2, 1) := by decide +kernel
theorem d_law_995 : decode code 995 = .ok (.iadd, 1) := by decide +kernel
theorem d_law_996 : decode code 996 = .ok (.iaload, 1) := by decide +kernel
theorem d_law_997 : decode code 997 = .ok (.aload_n 0, 1) := by decide +kernel
theorem d_law_998 : decode code 998 = .ok (.iload_n 3, 1) := by decide +kernel
theorem d_law_999 : decode code 999 = .ok (.iconst 3, 1) := by decide +kernel
theorem d_law_1000 : decode code 1000 = .ok (.iadd, 1) := by decide +kernel
theorem d_law_1001 : decode code 1001 = .ok (.iaload, 1) := by decide +kernel
theorem d_law_1002 : decode code 1002 = .ok (.invokevirtual 128, 3) := by decide +kernel
theorem d_law_1005 : decode code 1005 = .ok (.lcmp, 1) := by decide +kernel
theorem d_law_1006 : decode code 1006 = .ok (.ifCond .eq 290, 3) := by decide +kernel
theorem d_law_1009 : decode code 1009 = .ok (.iconst 0, 1) := by decide +kernel
theorem d_law_1010 : decode code 1010 = .ok (.ireturn, 1) := by decide +kernel
theorem d_law_1011 : decode code 1011 = .ok (.aload_n 1, 1) := by decide +kernel
theorem d_law_1012 : decode code 1012 = .ok (.aload_n 0, 1) := by decide +kernel
theorem d_law_1013 : decode code 1013 = .ok (.iload_n 3, 1) := by decide +kernel
theorem d_law_1014 : decode code 1014 = .ok (.iconst 1, 1) := by decide +kernel
theorem d_law_1015 : decode code 1015 = .ok (.iadd, 1) := by decide +kernel
theorem d_law_1016 : decode code 1016 = .ok (.iaload, 1) := by decide +kernel
theorem d_law_1017 : decode code 1017 = .ok (.aload_n 0, 1) := by decide +kernel
theorem d_law_1018 : decode code 1018 = .ok (.iload_n 3, 1) := by decide +kernel
theorem d_law_1019 : decode code 1019 = .ok (.iconst 2, 1) := by decide +kernel
theorem d_law_1020 : decode code 1020 = .ok (.iadd, 1) := by decide +kernel
theorem d_law_1021 : decode code 1021 = .ok (.iaload, 1) := by decide +kernel
theorem d_law_1022 : decode code 1022 = .ok (.aload_n 0, 1) := by decide +kernel
theorem d_law_1023 : decode code 1023 = .ok (.iload_n 3, 1) := by decide +kernel
theorem d_law_1024 : decode code 1024 = .ok (.iconst 3, 1) := by decide +kernel
theorem d_law_1025 : decode code 1025 = .ok (.iadd, 1) := by decide +kernel
theorem d_law_1026 : decode code 1026 = .ok (.iaload, 1) := by decide +kernel
theorem d_law_1027 : decode code 1027 = .ok (.invokevirtual 129, 3) := by decide +kernel
theorem d_law_1030 : decode code 1030 = .ok (.aload_n 2, 1) := by decide +kernel
theorem d_law_1031 : decode code 1031 = .ok (.aload_n 0, 1) := by decide +kernel
theorem d_law_1032 : decode code 1032 = .ok (.iload_n 3, 1) := by decide +kernel
theorem d_law_1033 : decode code 1033 = .ok (.iconst 1, 1) := by decide +kernel
theorem d_law_1034 : decode code 1034 = .ok (.iadd, 1) := by decide +kernel
theorem d_law_1035 : decode code 1035 = .ok (.iaload, 1) := by decide +kernel
theorem d_law_1036 : decode code 1036 = .ok (.aload_n 0, 1) := by decide +kernel
theorem d_law_1037 : decode code 1037 = .ok (.iload_n 3, 1) := by decide +kernel
theorem d_law_1038 : decode code 1038 = .ok (.iconst 2, 1) := by decide +kernel
theorem d_law_1039 : decode code 1039 = .ok (.iadd, 1) := by decide +kernel
theorem d_law_1040 : decode code 1040 = .ok (.iaload, 1) := by decide +kernel
theorem d_law_1041 : decode code 1041 = .ok (.aload_n 0, 1) := by decide +kernel
theorem d_law_1042 : decode code 1042 = .ok (.iload_n 3, 1) := by decide +kernel
theorem d_law_1043 : decode code 1043 = .ok (.iconst 3, 1) := by decide +kernel
theorem d_law_1044 : decode code 1044 = .ok (.iadd, 1) := by decide +kernel
theorem d_law_1045 : decode code 1045 = .ok (.iaload, 1) := by decide +kernel
theorem d_law_1046 : decode code 1046 = .ok (.invokevirtual 132, 3) := by decide +kernel
theorem d_law_1049 : decode code 1049 = .ok (.if_icmp .eq 247, 3) := by decide +kernel
theorem d_law_1052 : decode code 1052 = .ok (.iconst 0, 1) := by decide +kernel
theorem d_law_1053 : decode code 1053 = .ok (.ireturn, 1) := by decide +kernel
theorem d_law_1054 : decode code 1054 = .ok (.aload_n 1, 1) := by decide +kernel
theorem d_law_1055 : decode code 1055 = .ok (.aload_n 0, 1) := by decide +kernel
theorem d_law_1056 : decode code 1056 = .ok (.iload_n 3, 1) := by decide +kernel
theorem d_law_1057 : decode code 1057 = .ok (.iconst 1, 1) := by decide +kernel
theorem d_law_1058 : decode code 1058 = .ok (.iadd, 1) := by decide +kernel
theorem d_law_1059 : decode code 1059 = .ok (.iaload, 1) := by decide +kernel
theorem d_law_1060 : decode code 1060 = .ok (.invokevirtual 133, 3) := by decide +kernel
theorem d_law_1063 : decode code 1063 = .ok (.aload_n 2, 1) := by decide +kernel
theorem d_law_1064 : decode code 1064 = .ok (.aload_n 0, 1) := by decide +kernel
theorem d_law_1065 : decode code 1065 = .ok (.iload_n 3, 1) := by decide +kernel
theorem d_law_1066 : decode code 1066 = .ok (.iconst 1, 1) := by decide +kernel
theorem d_law_1067 : decode code 1067 = .ok (.iadd, 1) := by decide +kernel
theorem d_law_1068 : decode code 1068 = .ok (.iaload, 1) := by decide +kernel
theorem d_law_1069 : decode code 1069 = .ok (.invokevirtual 136, 3) := by decide +kernel
theorem d_law_1072 : decode code 1072 = .ok (.if_icmp .eq 224, 3) := by decide +kernel
theorem d_law_1075 : decode code 1075 = .ok (.iconst 0, 1) := by decide +kernel
theorem d_law_1076 : decode code 1076 = .ok (.ireturn, 1) := by decide +kernel
theorem d_law_1077 : decode code 1077 = .ok (.aload_n 1, 1) := by decide +kernel
theorem d_law_1078 : decode code 1078 = .ok (.aload_n 0, 1) := by decide +kernel
theorem d_law_1079 : decode code 1079 = .ok (.iload_n 3, 1) := by decide +kernel
theorem d_law_1080 : decode code 1080 = .ok (.iconst 1, 1) := by decide +kernel
theorem d_law_1081 : decode code 1081 = .ok (.iadd, 1) := by decide +kernel
theorem d_law_1082 : decode code 1082 = .ok (.iaload, 1) := by decide +kernel
theorem d_law_1083 : decode code 1083 = .ok (.aload_n 0, 1) := by decide +kernel
theorem d_law_1084 : decode code 1084 = .ok (.iload_n 3, 1) := by decide +kernel
theorem d_law_1085 : decode code 1085 = .ok (.iconst 2, 1) := by decide +kernel
theorem d_law_1086 : decode code 1086 = .ok (.iadd, 1) := by decide +kernel
theorem d_law_1087 : decode code 1087 = .ok (.iaload, 1) := by decide +kernel
theorem d_law_1088 : decode code 1088 = .ok (.aload_n 0, 1) := by decide +kernel
theorem d_law_1089 : decode code 1089 = .ok (.iload_n 3, 1) := by decide +kernel
theorem d_law_1090 : decode code 1090 = .ok (.iconst 3, 1) := by decide +kernel
theorem d_law_1091 : decode code 1091 = .ok (.iadd, 1) := by decide +kernel
theorem d_law_1092 : decode code 1092 = .ok (.iaload, 1) := by decide +kernel
theorem d_law_1093 : decode code 1093 = .ok (.aload_n 0, 1) := by decide +kernel
theorem d_law_1094 : decode code 1094 = .ok (.iload_n 3, 1) := by decide +kernel
theorem d_law_1095 : decode code 1095 = .ok (.iconst 4, 1) := by decide +kernel
theorem d_law_1096 : decode code 1096 = .ok (.iadd, 1) := by decide +kernel
theorem d_law_1097 : decode code 1097 = .ok (.iaload, 1) := by decide +kernel
theorem d_law_1098 : decode code 1098 = .ok (.invokevirtual 137, 3) := by decide +kernel
theorem d_law_1101 : decode code 1101 = .ok (.aload_n 2, 1) := by decide +kernel
theorem d_law_1102 : decode code 1102 = .ok (.aload_n 0, 1) := by decide +kernel
theorem d_law_1103 : decode code 1103 = .ok (.iload_n 3, 1) := by decide +kernel
theorem d_law_1104 : decode code 1104 = .ok (.iconst 1, 1) := by decide +kernel
theorem d_law_1105 : decode code 1105 = .ok (.iadd, 1) := by decide +kernel
theorem d_law_1106 : decode code 1106 = .ok (.iaload, 1) := by decide +kernel
theorem d_law_1107 : decode code 1107 = .ok (.aload_n 0, 1) := by decide +kernel
theorem d_law_1108 : decode code 1108 = .ok (.iload_n 3, 1) := by decide +kernel
theorem d_law_1109 : decode code 1109 = .ok (.iconst 2, 1) := by decide +kernel
theorem d_law_1110 : decode code 1110 = .ok (.iadd, 1) := by decide +kernel
theorem d_law_1111 : decode code 1111 = .ok (.iaload, 1) := by decide +kernel
theorem d_law_1112 : decode code 1112 = .ok (.aload_n 0, 1) := by decide +kernel
theorem d_law_1113 : decode code 1113 = .ok (.iload_n 3, 1) := by decide +kernel
theorem d_law_1114 : decode code 1114 = .ok (.iconst 3, 1) := by decide +kernel
theorem d_law_1115 : decode code 1115 = .ok (.iadd, 1) := by decide +kernel
theorem d_law_1116 : decode code 1116 = .ok (.iaload, 1) := by decide +kernel
theorem d_law_1117 : decode code 1117 = .ok (.aload_n 0, 1) := by decide +kernel
theorem d_law_1118 : decode code 1118 = .ok (.iload_n 3, 1) := by decide +kernel
theorem d_law_1119 : decode code 1119 = .ok (.iconst 4, 1) := by decide +kernel
theorem d_law_1120 : decode code 1120 = .ok (.iadd, 1) := by decide +kernel
theorem d_law_1121 : decode code 1121 = .ok (.iaload, 1) := by decide +kernel
theorem d_law_1122 : decode code 1122 = .ok (.invokevirtual 140, 3) := by decide +kernel
theorem d_law_1125 : decode code 1125 = .ok (.if_icmp .eq 171, 3) := by decide +kernel
theorem d_law_1128 : decode code 1128 = .ok (.iconst 0, 1) := by decide +kernel
theorem d_law_1129 : decode code 1129 = .ok (.ireturn, 1) := by decide +kernel
theorem d_law_1130 : decode code 1130 = .ok (.aload_n 1, 1) := by decide +kernel
theorem d_law_1131 : decode code 1131 = .ok (.aload_n 0, 1) := by decide +kernel
theorem d_law_1132 : decode code 1132 = .ok (.iload_n 3, 1) := by decide +kernel
theorem d_law_1133 : decode code 1133 = .ok (.iconst 1, 1) := by decide +kernel
theorem d_law_1134 : decode code 1134 = .ok (.iadd, 1) := by decide +kernel
theorem d_law_1135 : decode code 1135 = .ok (.iaload, 1) := by decide +kernel
theorem d_law_1136 : decode code 1136 = .ok (.aload_n 0, 1) := by decide +kernel
theorem d_law_1137 : decode code 1137 = .ok (.iload_n 3, 1) := by decide +kernel
theorem d_law_1138 : decode code 1138 = .ok (.iconst 2, 1) := by decide +kernel
theorem d_law_1139 : decode code 1139 = .ok (.iadd, 1) := by decide +kernel
theorem d_law_1140 : decode code 1140 = .ok (.iaload, 1) := by decide +kernel
theorem d_law_1141 : decode code 1141 = .ok (.aload_n 0, 1) := by decide +kernel
theorem d_law_1142 : decode code 1142 = .ok (.iload_n 3, 1) := by decide +kernel
theorem d_law_1143 : decode code 1143 = .ok (.iconst 3, 1) := by decide +kernel
theorem d_law_1144 : decode code 1144 = .ok (.iadd, 1) := by decide +kernel
theorem d_law_1145 : decode code 1145 = .ok (.iaload, 1) := by decide +kernel
theorem d_law_1146 : decode code 1146 = .ok (.invokevirtual 141, 3) := by decide +kernel
theorem d_law_1149 : decode code 1149 = .ok (.aload_n 2, 1) := by decide +kernel
theorem d_law_1150 : decode code 1150 = .ok (.aload_n 0, 1) := by decide +kernel
theorem d_law_1151 : decode code 1151 = .ok (.iload_n 3, 1) := by decide +kernel
theorem d_law_1152 : decode code 1152 = .ok (.iconst 1, 1) := by decide +kernel
theorem d_law_1153 : decode code 1153 = .ok (.iadd, 1) := by decide +kernel
theorem d_law_1154 : decode code 1154 = .ok (.iaload, 1) := by decide +kernel
theorem d_law_1155 : decode code 1155 = .ok (.aload_n 0, 1) := by decide +kernel
theorem d_law_1156 : decode code 1156 = .ok (.iload_n 3, 1) := by decide +kernel
theorem d_law_1157 : decode code 1157 = .ok (.iconst 2, 1) := by decide +kernel
theorem d_law_1158 : decode code 1158 = .ok (.iadd, 1) := by decide +kernel
theorem d_law_1159 : decode code 1159 = .ok (.iaload, 1) := by decide +kernel
theorem d_law_1160 : decode code 1160 = .ok (.aload_n 0, 1) := by decide +kernel
theorem d_law_1161 : decode code 1161 = .ok (.iload_n 3, 1) := by decide +kernel
theorem d_law_1162 : decode code 1162 = .ok (.iconst 3, 1) := by decide +kernel
theorem d_law_1163 : decode code 1163 = .ok (.iadd, 1) := by decide +kernel
theorem d_law_1164 : decode code 1164 = .ok (.iaload, 1) := by decide +kernel
theorem d_law_1165 : decode code 1165 = .ok (.invokevirtual 144, 3) := by decide +kernel
theorem d_law_1168 : decode code 1168 = .ok (.if_icmp .eq 128, 3) := by decide +kernel
theorem d_law_1171 : decode code 1171 = .ok (.iconst 0, 1) := by decide +kernel
theorem d_law_1172 : decode code 1172 = .ok (.ireturn, 1) := by decide +kernel
theorem d_law_1173 : decode code 1173 = .ok (.aload_n 1, 1) := by decide +kernel
theorem d_law_1174 : decode code 1174 = .ok (.aload_n 0, 1) := by decide +kernel
theorem d_law_1175 : decode code 1175 = .ok (.iload_n 3, 1) := by decide +kernel
theorem d_law_1176 : decode code 1176 = .ok (.iconst 1, 1) := by decide +kernel
theorem d_law_1177 : decode code 1177 = .ok (.iadd, 1) := by decide +kernel
theorem d_law_1178 : decode code 1178 = .ok (.iaload, 1) := by decide +kernel
theorem d_law_1179 : decode code 1179 = .ok (.aload_n 0, 1) := by decide +kernel
theorem d_law_1180 : decode code 1180 = .ok (.iload_n 3, 1) := by decide +kernel
theorem d_law_1181 : decode code 1181 = .ok (.iconst 2, 1) := by decide +kernel
theorem d_law_1182 : decode code 1182 = .ok (.iadd, 1) := by decide +kernel
theorem d_law_1183 : decode code 1183 = .ok (.iaload, 1) := by decide +kernel
theorem d_law_1184 : decode code 1184 = .ok (.aload_n 0, 1) := by decide +kernel
theorem d_law_1185 : decode code 1185 = .ok (.iload_n 3, 1) := by decide +kernel
theorem d_law_1186 : decode code 1186 = .ok (.iconst 3, 1) := by decide +kernel
theorem d_law_1187 : decode code 1187 = .ok (.iadd, 1) := by decide +kernel
theorem d_law_1188 : decode code 1188 = .ok (.iaload, 1) := by decide +kernel
theorem d_law_1189 : decode code 1189 = .ok (.aload_n 0, 1) := by decide +kernel
theorem d_law_1190 : decode code 1190 = .ok (.iload_n 3, 1) := by decide +kernel
theorem d_law_1191 : decode code 1191 = .ok (.iconst 4, 1) := by decide +kernel
theorem d_law_1192 : decode code 1192 = .ok (.iadd, 1) := by decide +kernel
theorem d_law_1193 : decode code 1193 = .ok (.iaload, 1) := by decide +kernel
theorem d_law_1194 : decode code 1194 = .ok (.aload_n 0, 1) := by decide +kernel
theorem d_law_1195 : decode code 1195 = .ok (.iload_n 3, 1) := by decide +kernel
theorem d_law_1196 : decode code 1196 = .ok (.iconst 5, 1) := by decide +kernel
theorem d_law_1197 : decode code 1197 = .ok (.iadd, 1) := by decide +kernel
theorem d_law_1198 : decode code 1198 = .ok (.iaload, 1) := by decide +kernel
theorem d_law_1199 : decode code 1199 = .ok (.invokevirtual 145, 3) := by decide +kernel
theorem d_law_1202 : decode code 1202 = .ok (.aload_n 2, 1) := by decide +kernel
theorem d_law_1203 : decode code 1203 = .ok (.aload_n 0, 1) := by decide +kernel
theorem d_law_1204 : decode code 1204 = .ok (.iload_n 3, 1) := by decide +kernel
theorem d_law_1205 : decode code 1205 = .ok (.iconst 1, 1) := by decide +kernel
theorem d_law_1206 : decode code 1206 = .ok (.iadd, 1) := by decide +kernel
theorem d_law_1207 : decode code 1207 = .ok (.iaload, 1) := by decide +kernel
theorem d_law_1208 : decode code 1208 = .ok (.aload_n 0, 1) := by decide +kernel
theorem d_law_1209 : decode code 1209 = .ok (.iload_n 3, 1) := by decide +kernel
theorem d_law_1210 : decode code 1210 = .ok (.iconst 2, 1) := by decide +kernel
theorem d_law_1211 : decode code 1211 = .ok (.iadd, 1) := by decide +kernel
theorem d_law_1212 : decode code 1212 = .ok (.iaload, 1) := by decide +kernel
theorem d_law_1213 : decode code 1213 = .ok (.aload_n 0, 1) := by decide +kernel
theorem d_law_1214 : decode code 1214 = .ok (.iload_n 3, 1) := by decide +kernel
theorem d_law_1215 : decode code 1215 = .ok (.iconst 3, 1) := by decide +kernel
theorem d_law_1216 : decode code 1216 = .ok (.iadd, 1) := by decide +kernel
theorem d_law_1217 : decode code 1217 = .ok (.iaload, 1) := by decide +kernel
theorem d_law_1218 : decode code 1218 = .ok (.aload_n 0, 1) := by decide +kernel
theorem d_law_1219 : decode code 1219 = .ok (.iload_n 3, 1) := by decide +kernel
theorem d_law_1220 : decode code 1220 = .ok (.iconst 4, 1) := by decide +kernel
theorem d_law_1221 : decode code 1221 = .ok (.iadd, 1) := by decide +kernel
theorem d_law_1222 : decode code 1222 = .ok (.iaload, 1) := by decide +kernel
theorem d_law_1223 : decode code 1223 = .ok (.aload_n 0, 1) := by decide +kernel
theorem d_law_1224 : decode code 1224 = .ok (.iload_n 3, 1) := by decide +kernel
theorem d_law_1225 : decode code 1225 = .ok (.iconst 5, 1) := by decide +kernel
theorem d_law_1226 : decode code 1226 = .ok (.iadd, 1) := by decide +kernel
theorem d_law_1227 : decode code 1227 = .ok (.iaload, 1) := by decide +kernel
theorem d_law_1228 : decode code 1228 = .ok (.invokevirtual 148, 3) := by decide +kernel
theorem d_law_1231 : decode code 1231 = .ok (.if_icmp .eq 65, 3) := by decide +kernel
theorem d_law_1234 : decode code 1234 = .ok (.iconst 0, 1) := by decide +kernel
theorem d_law_1235 : decode code 1235 = .ok (.ireturn, 1) := by decide +kernel
theorem d_law_1236 : decode code 1236 = .ok (.aload_n 1, 1) := by decide +kernel
theorem d_law_1237 : decode code 1237 = .ok (.aload_n 0, 1) := by decide +kernel
theorem d_law_1238 : decode code 1238 = .ok (.iload_n 3, 1) := by decide +kernel
theorem d_law_1239 : decode code 1239 = .ok (.iconst 1, 1) := by decide +kernel
theorem d_law_1240 : decode code 1240 = .ok (.iadd, 1) := by decide +kernel
theorem d_law_1241 : decode code 1241 = .ok (.iaload, 1) := by decide +kernel
theorem d_law_1242 : decode code 1242 = .ok (.invokevirtual 149, 3) := by decide +kernel
theorem d_law_1245 : decode code 1245 = .ok (.aload_n 2, 1) := by decide +kernel
theorem d_law_1246 : decode code 1246 = .ok (.aload_n 0, 1) := by decide +kernel
theorem d_law_1247 : decode code 1247 = .ok (.iload_n 3, 1) := by decide +kernel
theorem d_law_1248 : decode code 1248 = .ok (.iconst 1, 1) := by decide +kernel
theorem d_law_1249 : decode code 1249 = .ok (.iadd, 1) := by decide +kernel
theorem d_law_1250 : decode code 1250 = .ok (.iaload, 1) := by decide +kernel
theorem d_law_1251 : decode code 1251 = .ok (.invokevirtual 152, 3) := by decide +kernel
theorem d_law_1254 : decode code 1254 = .ok (.if_icmp .eq 42, 3) := by decide +kernel
theorem d_law_1257 : decode code 1257 = .ok (.iconst 0, 1) := by decide +kernel
theorem d_law_1258 : decode code 1258 = .ok (.ireturn, 1) := by decide +kernel
theorem d_law_1259 : decode code 1259 = .ok (.aload_n 1, 1) := by decide +kernel
theorem d_law_1260 : decode code 1260 = .ok (.aload_n 0, 1) := by decide +kernel
theorem d_law_1261 : decode code 1261 = .ok (.iload_n 3, 1) := by decide +kernel
theorem d_law_1262 : decode code 1262 = .ok (.iconst 1, 1) := by decide +kernel
theorem d_law_1263 : decode code 1263 = .ok (.iadd, 1) := by decide +kernel
theorem d_law_1264 : decode code 1264 = .ok (.iaload, 1) := by decide +kernel
theorem d_law_1265 : decode code 1265 = .ok (.invokevirtual 153, 3) := by decide +kernel
theorem d_law_1268 : decode code 1268 = .ok (.aload_n 2, 1) := by decide +kernel
theorem d_law_1269 : decode code 1269 = .ok (.aload_n 0, 1) := by decide +kernel
theorem d_law_1270 : decode code 1270 = .ok (.iload_n 3, 1) := by decide +kernel
theorem d_law_1271 : decode code 1271 = .ok (.iconst 1, 1) := by decide +kernel
theorem d_law_1272 : decode code 1272 = .ok (.iadd, 1) := by decide +kernel
theorem d_law_1273 : decode code 1273 = .ok (.iaload, 1) := by decide +kernel
theorem d_law_1274 : decode code 1274 = .ok (.invokevirtual 156, 3) := by decide +kernel
theorem d_law_1277 : decode code 1277 = .ok (.if_icmp .eq 19, 3) := by decide +kernel
theorem d_law_1280 : decode code 1280 = .ok (.iconst 0, 1) := by decide +kernel
theorem d_law_1281 : decode code 1281 = .ok (.ireturn, 1) := by decide +kernel
theorem d_law_1282 : decode code 1282 = .ok (.aload_n 1, 1) := by decide +kernel
theorem d_law_1283 : decode code 1283 = .ok (.invokevirtual 157, 3) := by decide +kernel
theorem d_law_1286 : decode code 1286 = .ok (.aload_n 2, 1) := by decide +kernel
theorem d_law_1287 : decode code 1287 = .ok (.invokevirtual 161, 3) := by decide +kernel
theorem d_law_1290 : decode code 1290 = .ok (.lcmp, 1) := by decide +kernel
theorem d_law_1291 : decode code 1291 = .ok (.ifCond .eq 5, 3) := by decide +kernel
theorem d_law_1294 : decode code 1294 = .ok (.iconst 0, 1) := by decide +kernel
theorem d_law_1295 : decode code 1295 = .ok (.ireturn, 1) := by decide +kernel
theorem d_law_1296 : decode code 1296 = .ok (.iinc 3 6, 3) := by decide +kernel
theorem d_law_1299 : decode code 1299 = .ok (.goto (-1281), 3) := by decide +kernel
theorem d_law_1302 : decode code 1302 = .ok (.iconst 1, 1) := by decide +kernel
theorem d_law_1303 : decode code 1303 = .ok (.ireturn, 1) := by decide +kernel
theorem lg_cmp_self (x : Int64) : lg_cmp x x = 0 := by simp [lg_cmp]
section LAW
variable {V : Vx} {X : Xx} {R : Room} {cc : ByteArray} {own : String} {nL : Nat} {ret : Option FieldType} {Q : State → Prop} {σ σ' : Sg} {pc pc' : Nat} {lv : List (Nat × Value)} {st rest : List Value} {B L : Nat} {ys : Nat → Int32}
/-- the script, that no cell of ours is -/
def Scr (V : Vx) (X : Xx) (B L : Nat) (ys : Nat → Int32) : Prop := va_X B L ys (xs X) (xs X).heap ∧ B < (xs X).heap.size ∧ ¬ Ab V B
theorem J_sld {x : Int32} (hB : Scr V X B L ys) (hd : decode cc pc = .ok (.iaload, 1)) (hn : pc + 1 = pc') (hin : vp_in x L) (kk : J V X R cc own nL ret Q σ pc' lv (.int (ys x.toNatClampNeg) :: rest)) : J V X R cc own nL ret Q σ pc lv (.int x :: .ref B :: rest) := by
  subst hn
  exact fun C H locs ls hP hS hl => va_sld C.1 C.2.1 hB.1 hB.2.1 hB.2.2 hS hin hd (kk C H locs ls hP hS hl)
theorem J_slen (hB : Scr V X B L ys) (hd : decode cc pc = .ok (.arraylength, 1)) (hn : pc + 1 = pc') (kk : J V X R cc own nL ret Q σ pc' lv (.int (nI L) :: rest)) : J V X R cc own nL ret Q σ pc lv (.ref B :: rest) := by
  subst hn
  exact fun C H locs ls hP hS hl => va_slen C.1 C.2.1 hB.1 hB.2.1 hB.2.2 hS hd (kk C H locs ls hP hS hl)
end LAW
theorem vin_k {i k L : Nat} {x : Int32} (h : i + 6 ≤ L) (hL : L ≤ 3072) (hk : k < 6) (hx : x = nI k) : vp_in (nI i + x) L := by
  rw [hx, nI_add]; exact vp_in_nI (by omega) (by omega)
theorem vin_0 {i L : Nat} (h : i + 6 ≤ L) (hL : L ≤ 3072) : vp_in (nI i) L := vp_in_nI (by omega) (by omega)
abbrev lawlv (V : Vx) (B i : Nat) : List (Nat × Value) := [(0, .ref B), (1, rf V 0), (2, rf V 66), (3, .int (nI i))]
abbrev JL (V : Vx) (X : Xx) (Q : State → Prop) (σ : Sg) (pc : Nat) (lv : List (Nat × Value)) (st : List Value) : Prop := J V X room_1 code R_law 4 (some .boolean) Q σ pc lv st
/-! what the calls must do -/
def E_type (Rel : Sg → Prop) : Prop := ∀ (σ : Sg) (a1 a2 : Int32), Rel σ → ∃ (r : Int32) (σ1 : Sg) (σ2 : Sg), f_GR_type σ a1 a2 = some (r, σ1) ∧ f_Md_type σ1 a1 a2 = some (r, σ2) ∧ Rel σ2
def E_wipe (Rel : Sg → Prop) : Prop := ∀ (σ : Sg) (a1 : Int32), Rel σ → ∃ (r : Int32) (σ1 : Sg) (σ2 : Sg), f_GR_wipe σ a1 = some (r, σ1) ∧ f_Md_wipe σ1 a1 = some (r, σ2) ∧ Rel σ2
def E_fault (Rel : Sg → Prop) : Prop := ∀ (σ : Sg) (a1 : Int32), Rel σ → ∃ (r : Int32) (σ2 : Sg), f_GR_fault σ a1 = r ∧ f_Md_fault σ a1 = some (r, σ2) ∧ Rel σ2
def E_rope (Rel : Sg → Prop) : Prop := ∀ (σ : Sg) (a1 a2 : Int32), Rel σ → ∃ (r : Int32) (σ2 : Sg), f_GR_rope σ a1 a2 = r ∧ f_Md_rope σ a1 a2 = some (r, σ2) ∧ Rel σ2
def E_crosses (Rel : Sg → Prop) : Prop := ∀ (σ : Sg) (a1 a2 a3 : Int32), Rel σ → ∃ (r : Int32) (σ2 : Sg), f_GR_crosses σ a1 a2 a3 = some r ∧ f_Md_crosses σ a1 a2 a3 = some (r, σ2) ∧ Rel σ2
def E_crossing (Rel : Sg → Prop) : Prop := ∀ (σ : Sg) (a1 a2 a3 a4 : Int32), Rel σ → ∃ (r : Int64) (σ2 : Sg), f_GR_crossing σ a1 a2 a3 a4 = some r ∧ f_Md_crossing σ a1 a2 a3 a4 = some (r, σ2) ∧ Rel σ2
def E_takes (Rel : Sg → Prop) : Prop := ∀ (σ : Sg) (a1 a2 a3 a4 : Int32), Rel σ → ∃ (r : Int32) (σ2 : Sg), f_GR_takes σ a1 a2 a3 a4 = r ∧ f_Md_takes σ a1 a2 a3 a4 = some (r, σ2) ∧ Rel σ2
def E_set (Rel : Sg → Prop) : Prop := ∀ (σ : Sg) (a1 a2 : Int32), Rel σ → ∃ (r : Int32) (σ1 : Sg) (σ2 : Sg), f_GR_set σ a1 a2 = some (r, σ1) ∧ f_Md_set σ1 a1 a2 = some (r, σ2) ∧ Rel σ2
def E_trip (Rel : Sg → Prop) : Prop := ∀ (σ : Sg) (a1 a2 a3 a4 a5 : Int32), Rel σ → ∃ (r : Int32) (σ1 : Sg) (σ2 : Sg), f_GR_trip σ a1 a2 a3 a4 a5 = some (r, σ1) ∧ f_Md_trip σ1 a1 a2 a3 a4 a5 = some (r, σ2) ∧ Rel σ2
def E_read (Rel : Sg → Prop) : Prop := ∀ (σ : Sg) (a1 a2 : Int32), Rel σ → ∃ (r : Int32) (σ1 : Sg) (σ2 : Sg), f_GR_read σ a1 a2 = some (r, σ1) ∧ f_Md_read σ1 a1 a2 = some (r, σ2) ∧ Rel σ2
def E_undo (Rel : Sg → Prop) : Prop := ∀ (σ : Sg), Rel σ → ∃ (r : Int32) (σ1 : Sg) (σ2 : Sg), f_GR_undo σ = some (r, σ1) ∧ f_Md_undo σ1 = some (r, σ2) ∧ Rel σ2
def E_clash (Rel : Sg → Prop) : Prop := ∀ (σ : Sg) (a1 a2 a3 : Int32), Rel σ → ∃ (r : Int32) (σ1 : Sg) (σ2 : Sg), f_GR_clash σ a1 a2 a3 = some (r, σ1) ∧ f_Md_clash σ1 a1 a2 a3 = some (r, σ2) ∧ Rel σ2
def E_clashes (Rel : Sg → Prop) : Prop := ∀ (σ : Sg), Rel σ → ∃ (r : Int32) (σ1 : Sg) (σ2 : Sg), f_GR_clashes σ = some (r, σ1) ∧ f_Md_clashes σ1 = some (r, σ2) ∧ Rel σ2
def E_putOff (Rel : Sg → Prop) : Prop := ∀ (σ : Sg) (a1 : Int32), Rel σ → ∃ (r : Int32) (σ1 : Sg) (σ2 : Sg), f_GR_putOff σ a1 = some (r, σ1) ∧ f_Md_putOff σ1 a1 = some (r, σ2) ∧ Rel σ2
def E_frayed (Rel : Sg → Prop) : Prop := ∀ (σ : Sg) (a1 a2 : Int32), Rel σ → ∃ (r : Int32) (σ2 : Sg), f_GR_frayed σ a1 a2 = some r ∧ f_Md_frayed σ a1 a2 = some (r, σ2) ∧ Rel σ2
def E_yet (Rel : Sg → Prop) : Prop := ∀ (σ : Sg) (a1 a2 : Int32), Rel σ → ∃ (r : Int32) (σ2 : Sg), f_GR_yet σ a1 a2 = some r ∧ f_Md_yet σ a1 a2 = some (r, σ2) ∧ Rel σ2
def E_heavy (Rel : Sg → Prop) : Prop := ∀ (σ : Sg), Rel σ → ∃ (r : Int32) (σ2 : Sg), f_GR_heavy σ = some r ∧ f_Md_heavy σ = some (r, σ2) ∧ Rel σ2
def E_wind (Rel : Sg → Prop) : Prop := ∀ (σ : Sg) (a1 : Int32), Rel σ → ∃ (r : Int32) (σ1 : Sg) (σ2 : Sg), f_GR_wind σ a1 = some (r, σ1) ∧ f_Md_wind σ1 a1 = some (r, σ2) ∧ Rel σ2
def E_part (Rel : Sg → Prop) : Prop := ∀ (σ : Sg) (a1 a2 : Int32), Rel σ → ∃ (r : Int32) (σ1 : Sg) (σ2 : Sg), f_GR_part σ a1 a2 = some (r, σ1) ∧ f_Md_part σ1 a1 a2 = some (r, σ2) ∧ Rel σ2
def E_gone (Rel : Sg → Prop) : Prop := ∀ (σ : Sg), Rel σ → ∃ (r : Int32) (σ1 : Sg) (σ2 : Sg), f_GR_gone σ = some (r, σ1) ∧ f_Md_gone σ1 = some (r, σ2) ∧ Rel σ2
def E_sent (Rel : Sg → Prop) : Prop := ∀ (σ : Sg) (a1 : Int32), Rel σ → ∃ (r : Int32) (σ1 : Sg) (σ2 : Sg), f_GR_sent σ a1 = some (r, σ1) ∧ f_Md_sent σ1 a1 = some (r, σ2) ∧ Rel σ2
def E_cut (Rel : Sg → Prop) : Prop := ∀ (σ : Sg) (a1 : Int32), Rel σ → ∃ (r : Int32) (σ1 : Sg) (σ2 : Sg), f_GR_cut σ a1 = some (r, σ1) ∧ f_Md_cut σ1 a1 = some (r, σ2) ∧ Rel σ2
def E_needed (Rel : Sg → Prop) : Prop := ∀ (σ : Sg), Rel σ → ∃ (r : Int32) (σ1 : Sg) (σ2 : Sg), f_GR_needed σ = some (r, σ1) ∧ f_Md_needed σ1 = some (r, σ2) ∧ Rel σ2
def E_pegs (Rel : Sg → Prop) : Prop := ∀ (σ : Sg) (a1 a2 a3 a4 : Int32), Rel σ → ∃ (r : Int32) (σ1 : Sg) (σ2 : Sg), f_GR_pegs σ a1 a2 a3 a4 = some (r, σ1) ∧ f_Md_pegs σ1 a1 a2 a3 a4 = some (r, σ2) ∧ Rel σ2
def E_balance (Rel : Sg → Prop) : Prop := ∀ (σ : Sg) (a1 : Int32), Rel σ → ∃ (r : Int32) (σ2 : Sg), f_GR_balance σ a1 = some r ∧ f_Md_balance σ a1 = some (r, σ2) ∧ Rel σ2
def E_settled (Rel : Sg → Prop) : Prop := ∀ (σ : Sg), Rel σ → ∃ (r : Int32) (σ1 : Sg) (σ2 : Sg), f_GR_settled σ = some (r, σ1) ∧ f_Md_settled σ1 = some (r, σ2) ∧ Rel σ2
def E_knots (Rel : Sg → Prop) : Prop := ∀ (σ : Sg) (a1 a2 a3 : Int32), Rel σ → ∃ (r : Int64) (σ1 : Sg) (σ2 : Sg), f_GR_knots σ a1 a2 a3 = some (r, σ1) ∧ f_Md_knots σ1 a1 a2 a3 = some (r, σ2) ∧ Rel σ2
def E_sheet (Rel : Sg → Prop) : Prop := ∀ (σ : Sg) (a1 a2 a3 : Int32), Rel σ → ∃ (r : Int32) (σ1 : Sg) (σ2 : Sg), f_GR_sheet σ a1 a2 a3 = some (r, σ1) ∧ f_Md_sheet σ1 a1 a2 a3 = some (r, σ2) ∧ Rel σ2
def E_lose (Rel : Sg → Prop) : Prop := ∀ (σ : Sg) (a1 : Int32), Rel σ → ∃ (r : Int32) (σ1 : Sg) (σ2 : Sg), f_GR_lose σ a1 = some (r, σ1) ∧ f_Md_lose σ1 a1 = some (r, σ2) ∧ Rel σ2
def E_lay (Rel : Sg → Prop) : Prop := ∀ (σ : Sg) (a1 a2 a3 a4 : Int32), Rel σ → ∃ (r : Int32) (σ1 : Sg) (σ2 : Sg), f_GR_lay σ a1 a2 a3 a4 = some (r, σ1) ∧ f_Md_lay σ1 a1 a2 a3 a4 = some (r, σ2) ∧ Rel σ2
def E_get (Rel : Sg → Prop) : Prop := ∀ (σ : Sg) (a1 a2 a3 : Int32), Rel σ → ∃ (r : Int32) (σ1 : Sg) (σ2 : Sg), f_GR_get σ a1 a2 a3 = some (r, σ1) ∧ f_Md_get σ1 a1 a2 a3 = some (r, σ2) ∧ Rel σ2
def E_copy (Rel : Sg → Prop) : Prop := ∀ (σ : Sg) (a1 a2 a3 a4 a5 : Int32), Rel σ → ∃ (r : Int32) (σ1 : Sg) (σ2 : Sg), f_GR_copy σ a1 a2 a3 a4 a5 = some (r, σ1) ∧ f_Md_copy σ1 a1 a2 a3 a4 a5 = some (r, σ2) ∧ Rel σ2
def E_write (Rel : Sg → Prop) : Prop := ∀ (σ : Sg) (a1 : Int32), Rel σ → ∃ (r : Int32) (σ1 : Sg) (σ2 : Sg), f_GR_write σ a1 = some (r, σ1) ∧ f_Md_write σ1 a1 = some (r, σ2) ∧ Rel σ2
def E_count (Rel : Sg → Prop) : Prop := ∀ (σ : Sg) (a1 : Int32), Rel σ → ∃ (r : Int32) (σ2 : Sg), f_GR_count σ a1 = some r ∧ f_Md_count σ a1 = some (r, σ2) ∧ Rel σ2
def E_digest (Rel : Sg → Prop) : Prop := ∀ (σ : Sg), Rel σ → ∃ (r : Int64) (σ1 : Sg) (σ2 : Sg), f_GR_digest σ = some (r, σ1) ∧ f_Md_digest σ1 = some (r, σ2) ∧ Rel σ2
def AllE (Rel : Sg → Prop) : Prop := E_type Rel ∧ E_wipe Rel ∧ E_fault Rel ∧ E_rope Rel ∧ E_crosses Rel ∧ E_crossing Rel ∧ E_takes Rel ∧ E_set Rel ∧ E_trip Rel ∧ E_read Rel ∧ E_undo Rel ∧ E_clash Rel ∧ E_clashes Rel ∧ E_putOff Rel ∧ E_frayed Rel ∧ E_yet Rel ∧ E_heavy Rel ∧ E_wind Rel ∧ E_part Rel ∧ E_gone Rel ∧ E_sent Rel ∧ E_cut Rel ∧ E_needed Rel ∧ E_pegs Rel ∧ E_balance Rel ∧ E_settled Rel ∧ E_knots Rel ∧ E_sheet Rel ∧ E_lose Rel ∧ E_lay Rel ∧ E_get Rel ∧ E_copy Rel ∧ E_write Rel ∧ E_count Rel ∧ E_digest Rel
theorem mv_law_13 : MV R_law 13 R_GR y_GR_type c_GR_type 4 (some .int) 2 := ⟨Or.inl (List.mem_of_getElem? (i := 386) (by decide +kernel)), List.mem_of_getElem? (i := 387) (by decide +kernel), List.mem_of_getElem? (i := 388) (by decide +kernel), List.mem_of_getElem? (i := 74) (by decide +kernel), List.mem_of_getElem? (i := 389) (by decide +kernel), ⟨by decide +kernel, by decide +kernel⟩, by decide +kernel⟩
theorem mv_law_17 : MV R_law 17 R_Md y_Md_type c_Md_type 3 (some .int) 2 := ⟨Or.inl (List.mem_of_getElem? (i := 1109) (by decide +kernel)), List.mem_of_getElem? (i := 1110) (by decide +kernel), List.mem_of_getElem? (i := 1111) (by decide +kernel), List.mem_of_getElem? (i := 86) (by decide +kernel), List.mem_of_getElem? (i := 1112) (by decide +kernel), ⟨by decide +kernel, by decide +kernel⟩, by decide +kernel⟩
theorem mv_law_18 : MV R_law 18 R_GR y_GR_wipe c_GR_wipe 4 (some .int) 1 := ⟨Or.inl (List.mem_of_getElem? (i := 461) (by decide +kernel)), List.mem_of_getElem? (i := 462) (by decide +kernel), List.mem_of_getElem? (i := 463) (by decide +kernel), List.mem_of_getElem? (i := 74) (by decide +kernel), List.mem_of_getElem? (i := 464) (by decide +kernel), ⟨by decide +kernel, by decide +kernel⟩, by decide +kernel⟩
theorem mv_law_22 : MV R_law 22 R_Md y_Md_wipe c_Md_wipe 3 (some .int) 1 := ⟨Or.inl (List.mem_of_getElem? (i := 1117) (by decide +kernel)), List.mem_of_getElem? (i := 1118) (by decide +kernel), List.mem_of_getElem? (i := 1119) (by decide +kernel), List.mem_of_getElem? (i := 86) (by decide +kernel), List.mem_of_getElem? (i := 1120) (by decide +kernel), ⟨by decide +kernel, by decide +kernel⟩, by decide +kernel⟩
theorem mv_law_23 : MV R_law 23 R_GR y_GR_fault c_GR_fault 2 (some .int) 1 := ⟨Or.inl (List.mem_of_getElem? (i := 469) (by decide +kernel)), List.mem_of_getElem? (i := 470) (by decide +kernel), List.mem_of_getElem? (i := 471) (by decide +kernel), List.mem_of_getElem? (i := 74) (by decide +kernel), List.mem_of_getElem? (i := 472) (by decide +kernel), ⟨by decide +kernel, by decide +kernel⟩, by decide +kernel⟩
theorem mv_law_26 : MV R_law 26 R_Md y_Md_fault c_Md_fault 2 (some .int) 1 := ⟨Or.inl (List.mem_of_getElem? (i := 1121) (by decide +kernel)), List.mem_of_getElem? (i := 1122) (by decide +kernel), List.mem_of_getElem? (i := 1123) (by decide +kernel), List.mem_of_getElem? (i := 86) (by decide +kernel), List.mem_of_getElem? (i := 1124) (by decide +kernel), ⟨by decide +kernel, by decide +kernel⟩, by decide +kernel⟩
theorem mv_law_27 : MV R_law 27 R_GR y_GR_rope c_GR_rope 3 (some .int) 2 := ⟨Or.inl (List.mem_of_getElem? (i := 473) (by decide +kernel)), List.mem_of_getElem? (i := 474) (by decide +kernel), List.mem_of_getElem? (i := 475) (by decide +kernel), List.mem_of_getElem? (i := 74) (by decide +kernel), List.mem_of_getElem? (i := 476) (by decide +kernel), ⟨by decide +kernel, by decide +kernel⟩, by decide +kernel⟩
theorem mv_law_30 : MV R_law 30 R_Md y_Md_rope c_Md_rope 3 (some .int) 2 := ⟨Or.inl (List.mem_of_getElem? (i := 1158) (by decide +kernel)), List.mem_of_getElem? (i := 1159) (by decide +kernel), List.mem_of_getElem? (i := 1160) (by decide +kernel), List.mem_of_getElem? (i := 86) (by decide +kernel), List.mem_of_getElem? (i := 1161) (by decide +kernel), ⟨by decide +kernel, by decide +kernel⟩, by decide +kernel⟩
theorem mv_law_31 : MV R_law 31 R_GR y_GR_crosses c_GR_crosses 5 (some .int) 3 := ⟨Or.inl (List.mem_of_getElem? (i := 483) (by decide +kernel)), List.mem_of_getElem? (i := 484) (by decide +kernel), List.mem_of_getElem? (i := 485) (by decide +kernel), List.mem_of_getElem? (i := 74) (by decide +kernel), List.mem_of_getElem? (i := 486) (by decide +kernel), ⟨by decide +kernel, by decide +kernel⟩, by decide +kernel⟩
theorem mv_law_35 : MV R_law 35 R_Md y_Md_crosses c_Md_crosses 4 (some .int) 3 := ⟨Or.inl (List.mem_of_getElem? (i := 1171) (by decide +kernel)), List.mem_of_getElem? (i := 1172) (by decide +kernel), List.mem_of_getElem? (i := 1173) (by decide +kernel), List.mem_of_getElem? (i := 86) (by decide +kernel), List.mem_of_getElem? (i := 1174) (by decide +kernel), ⟨by decide +kernel, by decide +kernel⟩, by decide +kernel⟩
theorem mv_law_36 : MV R_law 36 R_GR y_GR_crossing c_GR_crossing 5 (some .long) 4 := ⟨Or.inl (List.mem_of_getElem? (i := 500) (by decide +kernel)), List.mem_of_getElem? (i := 501) (by decide +kernel), List.mem_of_getElem? (i := 502) (by decide +kernel), List.mem_of_getElem? (i := 74) (by decide +kernel), List.mem_of_getElem? (i := 503) (by decide +kernel), ⟨by decide +kernel, by decide +kernel⟩, by decide +kernel⟩
theorem mv_law_40 : MV R_law 40 R_Md y_Md_crossing c_Md_crossing 5 (some .long) 4 := ⟨Or.inl (List.mem_of_getElem? (i := 1191) (by decide +kernel)), List.mem_of_getElem? (i := 1192) (by decide +kernel), List.mem_of_getElem? (i := 1193) (by decide +kernel), List.mem_of_getElem? (i := 86) (by decide +kernel), List.mem_of_getElem? (i := 1194) (by decide +kernel), ⟨by decide +kernel, by decide +kernel⟩, by decide +kernel⟩
theorem mv_law_41 : MV R_law 41 R_GR y_GR_takes c_GR_takes 6 (some .int) 4 := ⟨Or.inl (List.mem_of_getElem? (i := 527) (by decide +kernel)), List.mem_of_getElem? (i := 528) (by decide +kernel), List.mem_of_getElem? (i := 529) (by decide +kernel), List.mem_of_getElem? (i := 74) (by decide +kernel), List.mem_of_getElem? (i := 530) (by decide +kernel), ⟨by decide +kernel, by decide +kernel⟩, by decide +kernel⟩
theorem mv_law_45 : MV R_law 45 R_Md y_Md_takes c_Md_takes 5 (some .int) 4 := ⟨Or.inl (List.mem_of_getElem? (i := 1210) (by decide +kernel)), List.mem_of_getElem? (i := 1211) (by decide +kernel), List.mem_of_getElem? (i := 1212) (by decide +kernel), List.mem_of_getElem? (i := 86) (by decide +kernel), List.mem_of_getElem? (i := 1213) (by decide +kernel), ⟨by decide +kernel, by decide +kernel⟩, by decide +kernel⟩
theorem mv_law_46 : MV R_law 46 R_GR y_GR_set c_GR_set 4 (some .int) 2 := ⟨Or.inl (List.mem_of_getElem? (i := 539) (by decide +kernel)), List.mem_of_getElem? (i := 540) (by decide +kernel), List.mem_of_getElem? (i := 541) (by decide +kernel), List.mem_of_getElem? (i := 74) (by decide +kernel), List.mem_of_getElem? (i := 542) (by decide +kernel), ⟨by decide +kernel, by decide +kernel⟩, by decide +kernel⟩
theorem mv_law_49 : MV R_law 49 R_Md y_Md_set c_Md_set 4 (some .int) 2 := ⟨Or.inl (List.mem_of_getElem? (i := 1229) (by decide +kernel)), List.mem_of_getElem? (i := 1230) (by decide +kernel), List.mem_of_getElem? (i := 1231) (by decide +kernel), List.mem_of_getElem? (i := 86) (by decide +kernel), List.mem_of_getElem? (i := 1232) (by decide +kernel), ⟨by decide +kernel, by decide +kernel⟩, by decide +kernel⟩
theorem mv_law_50 : MV R_law 50 R_GR y_GR_trip c_GR_trip 6 (some .int) 5 := ⟨Or.inl (List.mem_of_getElem? (i := 547) (by decide +kernel)), List.mem_of_getElem? (i := 548) (by decide +kernel), List.mem_of_getElem? (i := 549) (by decide +kernel), List.mem_of_getElem? (i := 74) (by decide +kernel), List.mem_of_getElem? (i := 550) (by decide +kernel), ⟨by decide +kernel, by decide +kernel⟩, by decide +kernel⟩
theorem mv_law_54 : MV R_law 54 R_Md y_Md_trip c_Md_trip 6 (some .int) 5 := ⟨Or.inl (List.mem_of_getElem? (i := 1235) (by decide +kernel)), List.mem_of_getElem? (i := 1236) (by decide +kernel), List.mem_of_getElem? (i := 1237) (by decide +kernel), List.mem_of_getElem? (i := 86) (by decide +kernel), List.mem_of_getElem? (i := 1238) (by decide +kernel), ⟨by decide +kernel, by decide +kernel⟩, by decide +kernel⟩
theorem mv_law_55 : MV R_law 55 R_GR y_GR_read c_GR_read 6 (some .int) 2 := ⟨Or.inl (List.mem_of_getElem? (i := 568) (by decide +kernel)), List.mem_of_getElem? (i := 569) (by decide +kernel), List.mem_of_getElem? (i := 570) (by decide +kernel), List.mem_of_getElem? (i := 74) (by decide +kernel), List.mem_of_getElem? (i := 571) (by decide +kernel), ⟨by decide +kernel, by decide +kernel⟩, by decide +kernel⟩
theorem mv_law_58 : MV R_law 58 R_Md y_Md_read c_Md_read 6 (some .int) 2 := ⟨Or.inl (List.mem_of_getElem? (i := 1244) (by decide +kernel)), List.mem_of_getElem? (i := 1245) (by decide +kernel), List.mem_of_getElem? (i := 1246) (by decide +kernel), List.mem_of_getElem? (i := 86) (by decide +kernel), List.mem_of_getElem? (i := 1247) (by decide +kernel), ⟨by decide +kernel, by decide +kernel⟩, by decide +kernel⟩
theorem mv_law_59 : MV R_law 59 R_GR y_GR_undo c_GR_undo 1 (some .int) 0 := ⟨Or.inl (List.mem_of_getElem? (i := 590) (by decide +kernel)), List.mem_of_getElem? (i := 591) (by decide +kernel), List.mem_of_getElem? (i := 592) (by decide +kernel), List.mem_of_getElem? (i := 74) (by decide +kernel), List.mem_of_getElem? (i := 593) (by decide +kernel), ⟨by decide +kernel, by decide +kernel⟩, by decide +kernel⟩
theorem mv_law_63 : MV R_law 63 R_Md y_Md_undo c_Md_undo 1 (some .int) 0 := ⟨Or.inl (List.mem_of_getElem? (i := 1249) (by decide +kernel)), List.mem_of_getElem? (i := 1250) (by decide +kernel), List.mem_of_getElem? (i := 1251) (by decide +kernel), List.mem_of_getElem? (i := 86) (by decide +kernel), List.mem_of_getElem? (i := 1252) (by decide +kernel), ⟨by decide +kernel, by decide +kernel⟩, by decide +kernel⟩
theorem mv_law_64 : MV R_law 64 R_GR y_GR_clash c_GR_clash 5 (some .int) 3 := ⟨Or.inl (List.mem_of_getElem? (i := 599) (by decide +kernel)), List.mem_of_getElem? (i := 600) (by decide +kernel), List.mem_of_getElem? (i := 601) (by decide +kernel), List.mem_of_getElem? (i := 74) (by decide +kernel), List.mem_of_getElem? (i := 602) (by decide +kernel), ⟨by decide +kernel, by decide +kernel⟩, by decide +kernel⟩
theorem mv_law_67 : MV R_law 67 R_Md y_Md_clash c_Md_clash 6 (some .int) 3 := ⟨Or.inl (List.mem_of_getElem? (i := 1253) (by decide +kernel)), List.mem_of_getElem? (i := 1254) (by decide +kernel), List.mem_of_getElem? (i := 1255) (by decide +kernel), List.mem_of_getElem? (i := 86) (by decide +kernel), List.mem_of_getElem? (i := 1256) (by decide +kernel), ⟨by decide +kernel, by decide +kernel⟩, by decide +kernel⟩
theorem mv_law_68 : MV R_law 68 R_GR y_GR_clashes c_GR_clashes 1 (some .int) 0 := ⟨Or.inl (List.mem_of_getElem? (i := 638) (by decide +kernel)), List.mem_of_getElem? (i := 639) (by decide +kernel), List.mem_of_getElem? (i := 640) (by decide +kernel), List.mem_of_getElem? (i := 74) (by decide +kernel), List.mem_of_getElem? (i := 641) (by decide +kernel), ⟨by decide +kernel, by decide +kernel⟩, by decide +kernel⟩
theorem mv_law_71 : MV R_law 71 R_Md y_Md_clashes c_Md_clashes 1 (some .int) 0 := ⟨Or.inl (List.mem_of_getElem? (i := 1281) (by decide +kernel)), List.mem_of_getElem? (i := 1282) (by decide +kernel), List.mem_of_getElem? (i := 1283) (by decide +kernel), List.mem_of_getElem? (i := 86) (by decide +kernel), List.mem_of_getElem? (i := 1284) (by decide +kernel), ⟨by decide +kernel, by decide +kernel⟩, by decide +kernel⟩
theorem mv_law_72 : MV R_law 72 R_GR y_GR_putOff c_GR_putOff 2 (some .int) 1 := ⟨Or.inl (List.mem_of_getElem? (i := 647) (by decide +kernel)), List.mem_of_getElem? (i := 648) (by decide +kernel), List.mem_of_getElem? (i := 649) (by decide +kernel), List.mem_of_getElem? (i := 74) (by decide +kernel), List.mem_of_getElem? (i := 650) (by decide +kernel), ⟨by decide +kernel, by decide +kernel⟩, by decide +kernel⟩
theorem mv_law_75 : MV R_law 75 R_Md y_Md_putOff c_Md_putOff 2 (some .int) 1 := ⟨Or.inl (List.mem_of_getElem? (i := 1289) (by decide +kernel)), List.mem_of_getElem? (i := 1290) (by decide +kernel), List.mem_of_getElem? (i := 1291) (by decide +kernel), List.mem_of_getElem? (i := 86) (by decide +kernel), List.mem_of_getElem? (i := 1292) (by decide +kernel), ⟨by decide +kernel, by decide +kernel⟩, by decide +kernel⟩
theorem mv_law_76 : MV R_law 76 R_GR y_GR_frayed c_GR_frayed 3 (some .int) 2 := ⟨Or.inl (List.mem_of_getElem? (i := 673) (by decide +kernel)), List.mem_of_getElem? (i := 674) (by decide +kernel), List.mem_of_getElem? (i := 675) (by decide +kernel), List.mem_of_getElem? (i := 74) (by decide +kernel), List.mem_of_getElem? (i := 676) (by decide +kernel), ⟨by decide +kernel, by decide +kernel⟩, by decide +kernel⟩
theorem mv_law_79 : MV R_law 79 R_Md y_Md_frayed c_Md_frayed 3 (some .int) 2 := ⟨Or.inl (List.mem_of_getElem? (i := 1305) (by decide +kernel)), List.mem_of_getElem? (i := 1306) (by decide +kernel), List.mem_of_getElem? (i := 1307) (by decide +kernel), List.mem_of_getElem? (i := 86) (by decide +kernel), List.mem_of_getElem? (i := 1308) (by decide +kernel), ⟨by decide +kernel, by decide +kernel⟩, by decide +kernel⟩
theorem mv_law_80 : MV R_law 80 R_GR y_GR_yet c_GR_yet 4 (some .int) 2 := ⟨Or.inl (List.mem_of_getElem? (i := 685) (by decide +kernel)), List.mem_of_getElem? (i := 686) (by decide +kernel), List.mem_of_getElem? (i := 687) (by decide +kernel), List.mem_of_getElem? (i := 74) (by decide +kernel), List.mem_of_getElem? (i := 688) (by decide +kernel), ⟨by decide +kernel, by decide +kernel⟩, by decide +kernel⟩
theorem mv_law_83 : MV R_law 83 R_Md y_Md_yet c_Md_yet 4 (some .int) 2 := ⟨Or.inl (List.mem_of_getElem? (i := 1313) (by decide +kernel)), List.mem_of_getElem? (i := 1314) (by decide +kernel), List.mem_of_getElem? (i := 1315) (by decide +kernel), List.mem_of_getElem? (i := 86) (by decide +kernel), List.mem_of_getElem? (i := 1316) (by decide +kernel), ⟨by decide +kernel, by decide +kernel⟩, by decide +kernel⟩
theorem mv_law_84 : MV R_law 84 R_GR y_GR_heavy c_GR_heavy 4 (some .int) 0 := ⟨Or.inl (List.mem_of_getElem? (i := 689) (by decide +kernel)), List.mem_of_getElem? (i := 690) (by decide +kernel), List.mem_of_getElem? (i := 691) (by decide +kernel), List.mem_of_getElem? (i := 74) (by decide +kernel), List.mem_of_getElem? (i := 692) (by decide +kernel), ⟨by decide +kernel, by decide +kernel⟩, by decide +kernel⟩
theorem mv_law_87 : MV R_law 87 R_Md y_Md_heavy c_Md_heavy 1 (some .int) 0 := ⟨Or.inl (List.mem_of_getElem? (i := 1317) (by decide +kernel)), List.mem_of_getElem? (i := 1318) (by decide +kernel), List.mem_of_getElem? (i := 1319) (by decide +kernel), List.mem_of_getElem? (i := 86) (by decide +kernel), List.mem_of_getElem? (i := 1320) (by decide +kernel), ⟨by decide +kernel, by decide +kernel⟩, by decide +kernel⟩
theorem mv_law_88 : MV R_law 88 R_GR y_GR_wind c_GR_wind 2 (some .int) 1 := ⟨Or.inl (List.mem_of_getElem? (i := 693) (by decide +kernel)), List.mem_of_getElem? (i := 694) (by decide +kernel), List.mem_of_getElem? (i := 695) (by decide +kernel), List.mem_of_getElem? (i := 74) (by decide +kernel), List.mem_of_getElem? (i := 696) (by decide +kernel), ⟨by decide +kernel, by decide +kernel⟩, by decide +kernel⟩
theorem mv_law_91 : MV R_law 91 R_Md y_Md_wind c_Md_wind 3 (some .int) 1 := ⟨Or.inl (List.mem_of_getElem? (i := 1325) (by decide +kernel)), List.mem_of_getElem? (i := 1326) (by decide +kernel), List.mem_of_getElem? (i := 1327) (by decide +kernel), List.mem_of_getElem? (i := 86) (by decide +kernel), List.mem_of_getElem? (i := 1328) (by decide +kernel), ⟨by decide +kernel, by decide +kernel⟩, by decide +kernel⟩
theorem mv_law_92 : MV R_law 92 R_GR y_GR_part c_GR_part 3 (some .int) 2 := ⟨Or.inl (List.mem_of_getElem? (i := 706) (by decide +kernel)), List.mem_of_getElem? (i := 707) (by decide +kernel), List.mem_of_getElem? (i := 708) (by decide +kernel), List.mem_of_getElem? (i := 74) (by decide +kernel), List.mem_of_getElem? (i := 709) (by decide +kernel), ⟨by decide +kernel, by decide +kernel⟩, by decide +kernel⟩
theorem mv_law_95 : MV R_law 95 R_Md y_Md_part c_Md_part 3 (some .int) 2 := ⟨Or.inl (List.mem_of_getElem? (i := 1334) (by decide +kernel)), List.mem_of_getElem? (i := 1335) (by decide +kernel), List.mem_of_getElem? (i := 1336) (by decide +kernel), List.mem_of_getElem? (i := 86) (by decide +kernel), List.mem_of_getElem? (i := 1337) (by decide +kernel), ⟨by decide +kernel, by decide +kernel⟩, by decide +kernel⟩
theorem mv_law_96 : MV R_law 96 R_GR y_GR_gone c_GR_gone 1 (some .int) 0 := ⟨Or.inl (List.mem_of_getElem? (i := 719) (by decide +kernel)), List.mem_of_getElem? (i := 720) (by decide +kernel), List.mem_of_getElem? (i := 721) (by decide +kernel), List.mem_of_getElem? (i := 74) (by decide +kernel), List.mem_of_getElem? (i := 722) (by decide +kernel), ⟨by decide +kernel, by decide +kernel⟩, by decide +kernel⟩
theorem mv_law_99 : MV R_law 99 R_Md y_Md_gone c_Md_gone 2 (some .int) 0 := ⟨Or.inl (List.mem_of_getElem? (i := 1338) (by decide +kernel)), List.mem_of_getElem? (i := 1339) (by decide +kernel), List.mem_of_getElem? (i := 1340) (by decide +kernel), List.mem_of_getElem? (i := 86) (by decide +kernel), List.mem_of_getElem? (i := 1341) (by decide +kernel), ⟨by decide +kernel, by decide +kernel⟩, by decide +kernel⟩
theorem mv_law_100 : MV R_law 100 R_GR y_GR_sent c_GR_sent 2 (some .int) 1 := ⟨Or.inl (List.mem_of_getElem? (i := 727) (by decide +kernel)), List.mem_of_getElem? (i := 728) (by decide +kernel), List.mem_of_getElem? (i := 729) (by decide +kernel), List.mem_of_getElem? (i := 74) (by decide +kernel), List.mem_of_getElem? (i := 730) (by decide +kernel), ⟨by decide +kernel, by decide +kernel⟩, by decide +kernel⟩
theorem mv_law_103 : MV R_law 103 R_Md y_Md_sent c_Md_sent 2 (some .int) 1 := ⟨Or.inl (List.mem_of_getElem? (i := 1342) (by decide +kernel)), List.mem_of_getElem? (i := 1343) (by decide +kernel), List.mem_of_getElem? (i := 1344) (by decide +kernel), List.mem_of_getElem? (i := 86) (by decide +kernel), List.mem_of_getElem? (i := 1345) (by decide +kernel), ⟨by decide +kernel, by decide +kernel⟩, by decide +kernel⟩
theorem mv_law_104 : MV R_law 104 R_GR y_GR_cut c_GR_cut 2 (some .int) 1 := ⟨Or.inl (List.mem_of_getElem? (i := 797) (by decide +kernel)), List.mem_of_getElem? (i := 798) (by decide +kernel), List.mem_of_getElem? (i := 799) (by decide +kernel), List.mem_of_getElem? (i := 74) (by decide +kernel), List.mem_of_getElem? (i := 800) (by decide +kernel), ⟨by decide +kernel, by decide +kernel⟩, by decide +kernel⟩
theorem mv_law_107 : MV R_law 107 R_Md y_Md_cut c_Md_cut 2 (some .int) 1 := ⟨Or.inl (List.mem_of_getElem? (i := 1371) (by decide +kernel)), List.mem_of_getElem? (i := 1372) (by decide +kernel), List.mem_of_getElem? (i := 1373) (by decide +kernel), List.mem_of_getElem? (i := 86) (by decide +kernel), List.mem_of_getElem? (i := 1374) (by decide +kernel), ⟨by decide +kernel, by decide +kernel⟩, by decide +kernel⟩
theorem mv_law_108 : MV R_law 108 R_GR y_GR_needed c_GR_needed 4 (some .int) 0 := ⟨Or.inl (List.mem_of_getElem? (i := 805) (by decide +kernel)), List.mem_of_getElem? (i := 806) (by decide +kernel), List.mem_of_getElem? (i := 807) (by decide +kernel), List.mem_of_getElem? (i := 74) (by decide +kernel), List.mem_of_getElem? (i := 808) (by decide +kernel), ⟨by decide +kernel, by decide +kernel⟩, by decide +kernel⟩
theorem mv_law_111 : MV R_law 111 R_Md y_Md_needed c_Md_needed 1 (some .int) 0 := ⟨Or.inl (List.mem_of_getElem? (i := 1379) (by decide +kernel)), List.mem_of_getElem? (i := 1380) (by decide +kernel), List.mem_of_getElem? (i := 1381) (by decide +kernel), List.mem_of_getElem? (i := 86) (by decide +kernel), List.mem_of_getElem? (i := 1382) (by decide +kernel), ⟨by decide +kernel, by decide +kernel⟩, by decide +kernel⟩
theorem mv_law_112 : MV R_law 112 R_GR y_GR_pegs c_GR_pegs 5 (some .int) 4 := ⟨Or.inl (List.mem_of_getElem? (i := 809) (by decide +kernel)), List.mem_of_getElem? (i := 810) (by decide +kernel), List.mem_of_getElem? (i := 811) (by decide +kernel), List.mem_of_getElem? (i := 74) (by decide +kernel), List.mem_of_getElem? (i := 812) (by decide +kernel), ⟨by decide +kernel, by decide +kernel⟩, by decide +kernel⟩
theorem mv_law_115 : MV R_law 115 R_Md y_Md_pegs c_Md_pegs 5 (some .int) 4 := ⟨Or.inl (List.mem_of_getElem? (i := 1387) (by decide +kernel)), List.mem_of_getElem? (i := 1388) (by decide +kernel), List.mem_of_getElem? (i := 1389) (by decide +kernel), List.mem_of_getElem? (i := 86) (by decide +kernel), List.mem_of_getElem? (i := 1390) (by decide +kernel), ⟨by decide +kernel, by decide +kernel⟩, by decide +kernel⟩
theorem mv_law_116 : MV R_law 116 R_GR y_GR_balance c_GR_balance 2 (some .int) 1 := ⟨Or.inl (List.mem_of_getElem? (i := 828) (by decide +kernel)), List.mem_of_getElem? (i := 829) (by decide +kernel), List.mem_of_getElem? (i := 830) (by decide +kernel), List.mem_of_getElem? (i := 74) (by decide +kernel), List.mem_of_getElem? (i := 831) (by decide +kernel), ⟨by decide +kernel, by decide +kernel⟩, by decide +kernel⟩
theorem mv_law_119 : MV R_law 119 R_Md y_Md_balance c_Md_balance 2 (some .int) 1 := ⟨Or.inl (List.mem_of_getElem? (i := 1395) (by decide +kernel)), List.mem_of_getElem? (i := 1396) (by decide +kernel), List.mem_of_getElem? (i := 1397) (by decide +kernel), List.mem_of_getElem? (i := 86) (by decide +kernel), List.mem_of_getElem? (i := 1398) (by decide +kernel), ⟨by decide +kernel, by decide +kernel⟩, by decide +kernel⟩
theorem mv_law_120 : MV R_law 120 R_GR y_GR_settled c_GR_settled 1 (some .int) 0 := ⟨Or.inl (List.mem_of_getElem? (i := 843) (by decide +kernel)), List.mem_of_getElem? (i := 844) (by decide +kernel), List.mem_of_getElem? (i := 845) (by decide +kernel), List.mem_of_getElem? (i := 74) (by decide +kernel), List.mem_of_getElem? (i := 846) (by decide +kernel), ⟨by decide +kernel, by decide +kernel⟩, by decide +kernel⟩
theorem mv_law_123 : MV R_law 123 R_Md y_Md_settled c_Md_settled 1 (some .int) 0 := ⟨Or.inl (List.mem_of_getElem? (i := 1407) (by decide +kernel)), List.mem_of_getElem? (i := 1408) (by decide +kernel), List.mem_of_getElem? (i := 1409) (by decide +kernel), List.mem_of_getElem? (i := 86) (by decide +kernel), List.mem_of_getElem? (i := 1410) (by decide +kernel), ⟨by decide +kernel, by decide +kernel⟩, by decide +kernel⟩
theorem mv_law_124 : MV R_law 124 R_GR y_GR_knots c_GR_knots 4 (some .long) 3 := ⟨Or.inl (List.mem_of_getElem? (i := 857) (by decide +kernel)), List.mem_of_getElem? (i := 858) (by decide +kernel), List.mem_of_getElem? (i := 859) (by decide +kernel), List.mem_of_getElem? (i := 74) (by decide +kernel), List.mem_of_getElem? (i := 860) (by decide +kernel), ⟨by decide +kernel, by decide +kernel⟩, by decide +kernel⟩
theorem mv_law_128 : MV R_law 128 R_Md y_Md_knots c_Md_knots 7 (some .long) 3 := ⟨Or.inl (List.mem_of_getElem? (i := 1419) (by decide +kernel)), List.mem_of_getElem? (i := 1420) (by decide +kernel), List.mem_of_getElem? (i := 1421) (by decide +kernel), List.mem_of_getElem? (i := 86) (by decide +kernel), List.mem_of_getElem? (i := 1422) (by decide +kernel), ⟨by decide +kernel, by decide +kernel⟩, by decide +kernel⟩
theorem mv_law_129 : MV R_law 129 R_GR y_GR_sheet c_GR_sheet 4 (some .int) 3 := ⟨Or.inl (List.mem_of_getElem? (i := 870) (by decide +kernel)), List.mem_of_getElem? (i := 871) (by decide +kernel), List.mem_of_getElem? (i := 872) (by decide +kernel), List.mem_of_getElem? (i := 74) (by decide +kernel), List.mem_of_getElem? (i := 873) (by decide +kernel), ⟨by decide +kernel, by decide +kernel⟩, by decide +kernel⟩
theorem mv_law_132 : MV R_law 132 R_Md y_Md_sheet c_Md_sheet 5 (some .int) 3 := ⟨Or.inl (List.mem_of_getElem? (i := 1069) (by decide +kernel)), List.mem_of_getElem? (i := 1070) (by decide +kernel), List.mem_of_getElem? (i := 1071) (by decide +kernel), List.mem_of_getElem? (i := 86) (by decide +kernel), List.mem_of_getElem? (i := 1072) (by decide +kernel), ⟨by decide +kernel, by decide +kernel⟩, by decide +kernel⟩
theorem mv_law_133 : MV R_law 133 R_GR y_GR_lose c_GR_lose 4 (some .int) 1 := ⟨Or.inl (List.mem_of_getElem? (i := 880) (by decide +kernel)), List.mem_of_getElem? (i := 881) (by decide +kernel), List.mem_of_getElem? (i := 882) (by decide +kernel), List.mem_of_getElem? (i := 74) (by decide +kernel), List.mem_of_getElem? (i := 883) (by decide +kernel), ⟨by decide +kernel, by decide +kernel⟩, by decide +kernel⟩
theorem mv_law_136 : MV R_law 136 R_Md y_Md_lose c_Md_lose 2 (some .int) 1 := ⟨Or.inl (List.mem_of_getElem? (i := 1085) (by decide +kernel)), List.mem_of_getElem? (i := 1086) (by decide +kernel), List.mem_of_getElem? (i := 1087) (by decide +kernel), List.mem_of_getElem? (i := 86) (by decide +kernel), List.mem_of_getElem? (i := 1088) (by decide +kernel), ⟨by decide +kernel, by decide +kernel⟩, by decide +kernel⟩
theorem mv_law_137 : MV R_law 137 R_GR y_GR_lay c_GR_lay 6 (some .int) 4 := ⟨Or.inl (List.mem_of_getElem? (i := 884) (by decide +kernel)), List.mem_of_getElem? (i := 885) (by decide +kernel), List.mem_of_getElem? (i := 886) (by decide +kernel), List.mem_of_getElem? (i := 74) (by decide +kernel), List.mem_of_getElem? (i := 887) (by decide +kernel), ⟨by decide +kernel, by decide +kernel⟩, by decide +kernel⟩
theorem mv_law_140 : MV R_law 140 R_Md y_Md_lay c_Md_lay 6 (some .int) 4 := ⟨Or.inl (List.mem_of_getElem? (i := 1089) (by decide +kernel)), List.mem_of_getElem? (i := 1090) (by decide +kernel), List.mem_of_getElem? (i := 1091) (by decide +kernel), List.mem_of_getElem? (i := 86) (by decide +kernel), List.mem_of_getElem? (i := 1092) (by decide +kernel), ⟨by decide +kernel, by decide +kernel⟩, by decide +kernel⟩
theorem mv_law_141 : MV R_law 141 R_GR y_GR_get c_GR_get 5 (some .int) 3 := ⟨Or.inl (List.mem_of_getElem? (i := 902) (by decide +kernel)), List.mem_of_getElem? (i := 903) (by decide +kernel), List.mem_of_getElem? (i := 904) (by decide +kernel), List.mem_of_getElem? (i := 74) (by decide +kernel), List.mem_of_getElem? (i := 905) (by decide +kernel), ⟨by decide +kernel, by decide +kernel⟩, by decide +kernel⟩
theorem mv_law_144 : MV R_law 144 R_Md y_Md_get c_Md_get 4 (some .int) 3 := ⟨Or.inl (List.mem_of_getElem? (i := 1100) (by decide +kernel)), List.mem_of_getElem? (i := 1101) (by decide +kernel), List.mem_of_getElem? (i := 1102) (by decide +kernel), List.mem_of_getElem? (i := 86) (by decide +kernel), List.mem_of_getElem? (i := 1103) (by decide +kernel), ⟨by decide +kernel, by decide +kernel⟩, by decide +kernel⟩
theorem mv_law_145 : MV R_law 145 R_GR y_GR_copy c_GR_copy 8 (some .int) 5 := ⟨Or.inl (List.mem_of_getElem? (i := 907) (by decide +kernel)), List.mem_of_getElem? (i := 908) (by decide +kernel), List.mem_of_getElem? (i := 909) (by decide +kernel), List.mem_of_getElem? (i := 74) (by decide +kernel), List.mem_of_getElem? (i := 910) (by decide +kernel), ⟨by decide +kernel, by decide +kernel⟩, by decide +kernel⟩
theorem mv_law_148 : MV R_law 148 R_Md y_Md_copy c_Md_copy 7 (some .int) 5 := ⟨Or.inl (List.mem_of_getElem? (i := 1105) (by decide +kernel)), List.mem_of_getElem? (i := 1106) (by decide +kernel), List.mem_of_getElem? (i := 1107) (by decide +kernel), List.mem_of_getElem? (i := 86) (by decide +kernel), List.mem_of_getElem? (i := 1108) (by decide +kernel), ⟨by decide +kernel, by decide +kernel⟩, by decide +kernel⟩
theorem mv_law_149 : MV R_law 149 R_GR y_GR_write c_GR_write 5 (some .int) 1 := ⟨Or.inl (List.mem_of_getElem? (i := 918) (by decide +kernel)), List.mem_of_getElem? (i := 919) (by decide +kernel), List.mem_of_getElem? (i := 920) (by decide +kernel), List.mem_of_getElem? (i := 74) (by decide +kernel), List.mem_of_getElem? (i := 921) (by decide +kernel), ⟨by decide +kernel, by decide +kernel⟩, by decide +kernel⟩
theorem mv_law_152 : MV R_law 152 R_Md y_Md_write c_Md_write 4 (some .int) 1 := ⟨Or.inl (List.mem_of_getElem? (i := 1423) (by decide +kernel)), List.mem_of_getElem? (i := 1424) (by decide +kernel), List.mem_of_getElem? (i := 1425) (by decide +kernel), List.mem_of_getElem? (i := 86) (by decide +kernel), List.mem_of_getElem? (i := 1426) (by decide +kernel), ⟨by decide +kernel, by decide +kernel⟩, by decide +kernel⟩
theorem mv_law_153 : MV R_law 153 R_GR y_GR_count c_GR_count 2 (some .int) 1 := ⟨Or.inl (List.mem_of_getElem? (i := 923) (by decide +kernel)), List.mem_of_getElem? (i := 924) (by decide +kernel), List.mem_of_getElem? (i := 925) (by decide +kernel), List.mem_of_getElem? (i := 74) (by decide +kernel), List.mem_of_getElem? (i := 926) (by decide +kernel), ⟨by decide +kernel, by decide +kernel⟩, by decide +kernel⟩
theorem mv_law_156 : MV R_law 156 R_Md y_Md_count c_Md_count 4 (some .int) 1 := ⟨Or.inl (List.mem_of_getElem? (i := 1427) (by decide +kernel)), List.mem_of_getElem? (i := 1428) (by decide +kernel), List.mem_of_getElem? (i := 1429) (by decide +kernel), List.mem_of_getElem? (i := 86) (by decide +kernel), List.mem_of_getElem? (i := 1430) (by decide +kernel), ⟨by decide +kernel, by decide +kernel⟩, by decide +kernel⟩
theorem mv_law_157 : MV R_law 157 R_GR y_GR_digest c_GR_digest 4 (some .long) 0 := ⟨Or.inl (List.mem_of_getElem? (i := 940) (by decide +kernel)), List.mem_of_getElem? (i := 941) (by decide +kernel), List.mem_of_getElem? (i := 942) (by decide +kernel), List.mem_of_getElem? (i := 74) (by decide +kernel), List.mem_of_getElem? (i := 943) (by decide +kernel), ⟨by decide +kernel, by decide +kernel⟩, by decide +kernel⟩
theorem mv_law_161 : MV R_law 161 R_Md y_Md_digest c_Md_digest 5 (some .long) 0 := ⟨Or.inl (List.mem_of_getElem? (i := 1431) (by decide +kernel)), List.mem_of_getElem? (i := 1432) (by decide +kernel), List.mem_of_getElem? (i := 1433) (by decide +kernel), List.mem_of_getElem? (i := 86) (by decide +kernel), List.mem_of_getElem? (i := 1434) (by decide +kernel), ⟨by decide +kernel, by decide +kernel⟩, by decide +kernel⟩
