/-! THE LAW: its words -/
theorem dl_0 : decode code 0 = .ok (.new 7, 3) := by decide +kernel
theorem dl_3 : decode code 3 = .ok (.dup, 1) := by decide +kernel
theorem dl_4 : decode code 4 = .ok (.invokespecial 9, 3) := by decide +kernel
theorem dl_7 : decode code 7 = .ok (.astore_n 1, 1) := by decide +kernel
theorem dl_8 : decode code 8 = .ok (.new 10, 3) := by decide +kernel
theorem dl_11 : decode code 11 = .ok (.dup, 1) := by decide +kernel
theorem dl_12 : decode code 12 = .ok (.invokespecial 12, 3) := by decide +kernel
theorem dl_15 : decode code 15 = .ok (.astore_n 2, 1) := by decide +kernel
theorem dl_16 : decode code 16 = .ok (.iconst 0, 1) := by decide +kernel
theorem dl_17 : decode code 17 = .ok (.istore_n 3, 1) := by decide +kernel
theorem dl_18 : decode code 18 = .ok (.iload_n 3, 1) := by decide +kernel
theorem dl_19 : decode code 19 = .ok (.aload_n 0, 1) := by decide +kernel
theorem dl_20 : decode code 20 = .ok (.arraylength, 1) := by decide +kernel
theorem dl_21 : decode code 21 = .ok (.bipush 6, 2) := by decide +kernel
theorem dl_23 : decode code 23 = .ok (.isub, 1) := by decide +kernel
theorem dl_24 : decode code 24 = .ok (.if_icmp .gt 1534, 3) := by decide +kernel
theorem dl_27 : decode code 27 = .ok (.aload_n 0, 1) := by decide +kernel
theorem dl_28 : decode code 28 = .ok (.iload_n 3, 1) := by decide +kernel
theorem dl_29 : decode code 29 = .ok (.iaload, 1) := by decide +kernel
theorem dl_30 : decode code 30 = .ok (.bipush 31, 2) := by decide +kernel
theorem dl_32 : decode code 32 = .ok (.iand, 1) := by decide +kernel
theorem dl_33 : decode code 33 = .ok (.tableswitch 1519 0 30 #[139, 202, 225, 258, 281, 314, 373, 416, 449, 502, 555, 608, 661, 704, 747, 790, 839, 882, 925, 988, 1057, 1100, 1154, 1207, 1260, 1329, 1378, 1427, 1450, 1473, 1496], 139) := by decide +kernel
theorem dl_172 : decode code 172 = .ok (.aload_n 1, 1) := by decide +kernel
theorem dl_173 : decode code 173 = .ok (.aload_n 0, 1) := by decide +kernel
theorem dl_174 : decode code 174 = .ok (.iload_n 3, 1) := by decide +kernel
theorem dl_175 : decode code 175 = .ok (.iconst 1, 1) := by decide +kernel
theorem dl_176 : decode code 176 = .ok (.iadd, 1) := by decide +kernel
theorem dl_177 : decode code 177 = .ok (.iaload, 1) := by decide +kernel
theorem dl_178 : decode code 178 = .ok (.aload_n 0, 1) := by decide +kernel
theorem dl_179 : decode code 179 = .ok (.iload_n 3, 1) := by decide +kernel
theorem dl_180 : decode code 180 = .ok (.iconst 2, 1) := by decide +kernel
theorem dl_181 : decode code 181 = .ok (.iadd, 1) := by decide +kernel
theorem dl_182 : decode code 182 = .ok (.iaload, 1) := by decide +kernel
theorem dl_183 : decode code 183 = .ok (.aload_n 0, 1) := by decide +kernel
theorem dl_184 : decode code 184 = .ok (.iload_n 3, 1) := by decide +kernel
theorem dl_185 : decode code 185 = .ok (.iconst 3, 1) := by decide +kernel
theorem dl_186 : decode code 186 = .ok (.iadd, 1) := by decide +kernel
theorem dl_187 : decode code 187 = .ok (.iaload, 1) := by decide +kernel
theorem dl_188 : decode code 188 = .ok (.aload_n 0, 1) := by decide +kernel
theorem dl_189 : decode code 189 = .ok (.iload_n 3, 1) := by decide +kernel
theorem dl_190 : decode code 190 = .ok (.iconst 4, 1) := by decide +kernel
theorem dl_191 : decode code 191 = .ok (.iadd, 1) := by decide +kernel
theorem dl_192 : decode code 192 = .ok (.iaload, 1) := by decide +kernel
theorem dl_193 : decode code 193 = .ok (.aload_n 0, 1) := by decide +kernel
theorem dl_194 : decode code 194 = .ok (.iload_n 3, 1) := by decide +kernel
theorem dl_195 : decode code 195 = .ok (.iconst 5, 1) := by decide +kernel
theorem dl_196 : decode code 196 = .ok (.iadd, 1) := by decide +kernel
theorem dl_197 : decode code 197 = .ok (.iaload, 1) := by decide +kernel
theorem dl_198 : decode code 198 = .ok (.invokevirtual 13, 3) := by decide +kernel
theorem dl_201 : decode code 201 = .ok (.aload_n 2, 1) := by decide +kernel
theorem dl_202 : decode code 202 = .ok (.aload_n 0, 1) := by decide +kernel
theorem dl_203 : decode code 203 = .ok (.iload_n 3, 1) := by decide +kernel
theorem dl_204 : decode code 204 = .ok (.iconst 1, 1) := by decide +kernel
theorem dl_205 : decode code 205 = .ok (.iadd, 1) := by decide +kernel
theorem dl_206 : decode code 206 = .ok (.iaload, 1) := by decide +kernel
theorem dl_207 : decode code 207 = .ok (.aload_n 0, 1) := by decide +kernel
theorem dl_208 : decode code 208 = .ok (.iload_n 3, 1) := by decide +kernel
theorem dl_209 : decode code 209 = .ok (.iconst 2, 1) := by decide +kernel
theorem dl_210 : decode code 210 = .ok (.iadd, 1) := by decide +kernel
theorem dl_211 : decode code 211 = .ok (.iaload, 1) := by decide +kernel
theorem dl_212 : decode code 212 = .ok (.aload_n 0, 1) := by decide +kernel
theorem dl_213 : decode code 213 = .ok (.iload_n 3, 1) := by decide +kernel
theorem dl_214 : decode code 214 = .ok (.iconst 3, 1) := by decide +kernel
theorem dl_215 : decode code 215 = .ok (.iadd, 1) := by decide +kernel
theorem dl_216 : decode code 216 = .ok (.iaload, 1) := by decide +kernel
theorem dl_217 : decode code 217 = .ok (.aload_n 0, 1) := by decide +kernel
theorem dl_218 : decode code 218 = .ok (.iload_n 3, 1) := by decide +kernel
theorem dl_219 : decode code 219 = .ok (.iconst 4, 1) := by decide +kernel
theorem dl_220 : decode code 220 = .ok (.iadd, 1) := by decide +kernel
theorem dl_221 : decode code 221 = .ok (.iaload, 1) := by decide +kernel
theorem dl_222 : decode code 222 = .ok (.aload_n 0, 1) := by decide +kernel
theorem dl_223 : decode code 223 = .ok (.iload_n 3, 1) := by decide +kernel
theorem dl_224 : decode code 224 = .ok (.iconst 5, 1) := by decide +kernel
theorem dl_225 : decode code 225 = .ok (.iadd, 1) := by decide +kernel
theorem dl_226 : decode code 226 = .ok (.iaload, 1) := by decide +kernel
theorem dl_227 : decode code 227 = .ok (.invokevirtual 17, 3) := by decide +kernel
theorem dl_230 : decode code 230 = .ok (.if_icmp .eq 1322, 3) := by decide +kernel
theorem dl_233 : decode code 233 = .ok (.iconst 0, 1) := by decide +kernel
theorem dl_234 : decode code 234 = .ok (.ireturn, 1) := by decide +kernel
theorem dl_235 : decode code 235 = .ok (.aload_n 1, 1) := by decide +kernel
theorem dl_236 : decode code 236 = .ok (.aload_n 0, 1) := by decide +kernel
theorem dl_237 : decode code 237 = .ok (.iload_n 3, 1) := by decide +kernel
theorem dl_238 : decode code 238 = .ok (.iconst 1, 1) := by decide +kernel
theorem dl_239 : decode code 239 = .ok (.iadd, 1) := by decide +kernel
theorem dl_240 : decode code 240 = .ok (.iaload, 1) := by decide +kernel
theorem dl_241 : decode code 241 = .ok (.invokevirtual 18, 3) := by decide +kernel
theorem dl_244 : decode code 244 = .ok (.aload_n 2, 1) := by decide +kernel
theorem dl_245 : decode code 245 = .ok (.aload_n 0, 1) := by decide +kernel
theorem dl_246 : decode code 246 = .ok (.iload_n 3, 1) := by decide +kernel
theorem dl_247 : decode code 247 = .ok (.iconst 1, 1) := by decide +kernel
theorem dl_248 : decode code 248 = .ok (.iadd, 1) := by decide +kernel
theorem dl_249 : decode code 249 = .ok (.iaload, 1) := by decide +kernel
theorem dl_250 : decode code 250 = .ok (.invokevirtual 22, 3) := by decide +kernel
theorem dl_253 : decode code 253 = .ok (.if_icmp .eq 1299, 3) := by decide +kernel
theorem dl_256 : decode code 256 = .ok (.iconst 0, 1) := by decide +kernel
theorem dl_257 : decode code 257 = .ok (.ireturn, 1) := by decide +kernel
theorem dl_258 : decode code 258 = .ok (.aload_n 1, 1) := by decide +kernel
theorem dl_259 : decode code 259 = .ok (.aload_n 0, 1) := by decide +kernel
theorem dl_260 : decode code 260 = .ok (.iload_n 3, 1) := by decide +kernel
theorem dl_261 : decode code 261 = .ok (.iconst 1, 1) := by decide +kernel
theorem dl_262 : decode code 262 = .ok (.iadd, 1) := by decide +kernel
theorem dl_263 : decode code 263 = .ok (.iaload, 1) := by decide +kernel
theorem dl_264 : decode code 264 = .ok (.aload_n 0, 1) := by decide +kernel
theorem dl_265 : decode code 265 = .ok (.iload_n 3, 1) := by decide +kernel
theorem dl_266 : decode code 266 = .ok (.iconst 2, 1) := by decide +kernel
theorem dl_267 : decode code 267 = .ok (.iadd, 1) := by decide +kernel
theorem dl_268 : decode code 268 = .ok (.iaload, 1) := by decide +kernel
theorem dl_269 : decode code 269 = .ok (.invokevirtual 23, 3) := by decide +kernel
theorem dl_272 : decode code 272 = .ok (.aload_n 2, 1) := by decide +kernel
theorem dl_273 : decode code 273 = .ok (.aload_n 0, 1) := by decide +kernel
theorem dl_274 : decode code 274 = .ok (.iload_n 3, 1) := by decide +kernel
theorem dl_275 : decode code 275 = .ok (.iconst 1, 1) := by decide +kernel
theorem dl_276 : decode code 276 = .ok (.iadd, 1) := by decide +kernel
theorem dl_277 : decode code 277 = .ok (.iaload, 1) := by decide +kernel
theorem dl_278 : decode code 278 = .ok (.aload_n 0, 1) := by decide +kernel
theorem dl_279 : decode code 279 = .ok (.iload_n 3, 1) := by decide +kernel
theorem dl_280 : decode code 280 = .ok (.iconst 2, 1) := by decide +kernel
theorem dl_281 : decode code 281 = .ok (.iadd, 1) := by decide +kernel
theorem dl_282 : decode code 282 = .ok (.iaload, 1) := by decide +kernel
theorem dl_283 : decode code 283 = .ok (.invokevirtual 27, 3) := by decide +kernel
theorem dl_286 : decode code 286 = .ok (.if_icmp .eq 1266, 3) := by decide +kernel
theorem dl_289 : decode code 289 = .ok (.iconst 0, 1) := by decide +kernel
theorem dl_290 : decode code 290 = .ok (.ireturn, 1) := by decide +kernel
theorem dl_291 : decode code 291 = .ok (.aload_n 1, 1) := by decide +kernel
theorem dl_292 : decode code 292 = .ok (.aload_n 0, 1) := by decide +kernel
theorem dl_293 : decode code 293 = .ok (.iload_n 3, 1) := by decide +kernel
theorem dl_294 : decode code 294 = .ok (.iconst 1, 1) := by decide +kernel
theorem dl_295 : decode code 295 = .ok (.iadd, 1) := by decide +kernel
theorem dl_296 : decode code 296 = .ok (.iaload, 1) := by decide +kernel
theorem dl_297 : decode code 297 = .ok (.invokevirtual 28, 3) := by decide +kernel
theorem dl_300 : decode code 300 = .ok (.aload_n 2, 1) := by decide +kernel
theorem dl_301 : decode code 301 = .ok (.aload_n 0, 1) := by decide +kernel
theorem dl_302 : decode code 302 = .ok (.iload_n 3, 1) := by decide +kernel
theorem dl_303 : decode code 303 = .ok (.iconst 1, 1) := by decide +kernel
theorem dl_304 : decode code 304 = .ok (.iadd, 1) := by decide +kernel
theorem dl_305 : decode code 305 = .ok (.iaload, 1) := by decide +kernel
theorem dl_306 : decode code 306 = .ok (.invokevirtual 31, 3) := by decide +kernel
theorem dl_309 : decode code 309 = .ok (.if_icmp .eq 1243, 3) := by decide +kernel
theorem dl_312 : decode code 312 = .ok (.iconst 0, 1) := by decide +kernel
theorem dl_313 : decode code 313 = .ok (.ireturn, 1) := by decide +kernel
theorem dl_314 : decode code 314 = .ok (.aload_n 1, 1) := by decide +kernel
theorem dl_315 : decode code 315 = .ok (.aload_n 0, 1) := by decide +kernel
theorem dl_316 : decode code 316 = .ok (.iload_n 3, 1) := by decide +kernel
theorem dl_317 : decode code 317 = .ok (.iconst 1, 1) := by decide +kernel
theorem dl_318 : decode code 318 = .ok (.iadd, 1) := by decide +kernel
theorem dl_319 : decode code 319 = .ok (.iaload, 1) := by decide +kernel
theorem dl_320 : decode code 320 = .ok (.aload_n 0, 1) := by decide +kernel
theorem dl_321 : decode code 321 = .ok (.iload_n 3, 1) := by decide +kernel
theorem dl_322 : decode code 322 = .ok (.iconst 2, 1) := by decide +kernel
theorem dl_323 : decode code 323 = .ok (.iadd, 1) := by decide +kernel
theorem dl_324 : decode code 324 = .ok (.iaload, 1) := by decide +kernel
theorem dl_325 : decode code 325 = .ok (.invokevirtual 32, 3) := by decide +kernel
theorem dl_328 : decode code 328 = .ok (.aload_n 2, 1) := by decide +kernel
theorem dl_329 : decode code 329 = .ok (.aload_n 0, 1) := by decide +kernel
theorem dl_330 : decode code 330 = .ok (.iload_n 3, 1) := by decide +kernel
theorem dl_331 : decode code 331 = .ok (.iconst 1, 1) := by decide +kernel
theorem dl_332 : decode code 332 = .ok (.iadd, 1) := by decide +kernel
theorem dl_333 : decode code 333 = .ok (.iaload, 1) := by decide +kernel
theorem dl_334 : decode code 334 = .ok (.aload_n 0, 1) := by decide +kernel
theorem dl_335 : decode code 335 = .ok (.iload_n 3, 1) := by decide +kernel
theorem dl_336 : decode code 336 = .ok (.iconst 2, 1) := by decide +kernel
theorem dl_337 : decode code 337 = .ok (.iadd, 1) := by decide +kernel
theorem dl_338 : decode code 338 = .ok (.iaload, 1) := by decide +kernel
theorem dl_339 : decode code 339 = .ok (.invokevirtual 35, 3) := by decide +kernel
theorem dl_342 : decode code 342 = .ok (.if_icmp .eq 1210, 3) := by decide +kernel
theorem dl_345 : decode code 345 = .ok (.iconst 0, 1) := by decide +kernel
theorem dl_346 : decode code 346 = .ok (.ireturn, 1) := by decide +kernel
theorem dl_347 : decode code 347 = .ok (.aload_n 1, 1) := by decide +kernel
theorem dl_348 : decode code 348 = .ok (.aload_n 0, 1) := by decide +kernel
theorem dl_349 : decode code 349 = .ok (.iload_n 3, 1) := by decide +kernel
theorem dl_350 : decode code 350 = .ok (.iconst 1, 1) := by decide +kernel
theorem dl_351 : decode code 351 = .ok (.iadd, 1) := by decide +kernel
theorem dl_352 : decode code 352 = .ok (.iaload, 1) := by decide +kernel
theorem dl_353 : decode code 353 = .ok (.aload_n 0, 1) := by decide +kernel
theorem dl_354 : decode code 354 = .ok (.iload_n 3, 1) := by decide +kernel
theorem dl_355 : decode code 355 = .ok (.iconst 2, 1) := by decide +kernel
theorem dl_356 : decode code 356 = .ok (.iadd, 1) := by decide +kernel
theorem dl_357 : decode code 357 = .ok (.iaload, 1) := by decide +kernel
theorem dl_358 : decode code 358 = .ok (.aload_n 0, 1) := by decide +kernel
theorem dl_359 : decode code 359 = .ok (.iload_n 3, 1) := by decide +kernel
theorem dl_360 : decode code 360 = .ok (.iconst 3, 1) := by decide +kernel
theorem dl_361 : decode code 361 = .ok (.iadd, 1) := by decide +kernel
theorem dl_362 : decode code 362 = .ok (.iaload, 1) := by decide +kernel
theorem dl_363 : decode code 363 = .ok (.ifCond .eq 7, 3) := by decide +kernel
theorem dl_366 : decode code 366 = .ok (.iconst 1, 1) := by decide +kernel
theorem dl_367 : decode code 367 = .ok (.goto 4, 3) := by decide +kernel
theorem dl_370 : decode code 370 = .ok (.iconst 0, 1) := by decide +kernel
theorem dl_371 : decode code 371 = .ok (.invokevirtual 36, 3) := by decide +kernel
theorem dl_374 : decode code 374 = .ok (.aload_n 2, 1) := by decide +kernel
theorem dl_375 : decode code 375 = .ok (.aload_n 0, 1) := by decide +kernel
theorem dl_376 : decode code 376 = .ok (.iload_n 3, 1) := by decide +kernel
theorem dl_377 : decode code 377 = .ok (.iconst 1, 1) := by decide +kernel
theorem dl_378 : decode code 378 = .ok (.iadd, 1) := by decide +kernel
theorem dl_379 : decode code 379 = .ok (.iaload, 1) := by decide +kernel
theorem dl_380 : decode code 380 = .ok (.aload_n 0, 1) := by decide +kernel
theorem dl_381 : decode code 381 = .ok (.iload_n 3, 1) := by decide +kernel
theorem dl_382 : decode code 382 = .ok (.iconst 2, 1) := by decide +kernel
theorem dl_383 : decode code 383 = .ok (.iadd, 1) := by decide +kernel
theorem dl_384 : decode code 384 = .ok (.iaload, 1) := by decide +kernel
theorem dl_385 : decode code 385 = .ok (.aload_n 0, 1) := by decide +kernel
theorem dl_386 : decode code 386 = .ok (.iload_n 3, 1) := by decide +kernel
theorem dl_387 : decode code 387 = .ok (.iconst 3, 1) := by decide +kernel
theorem dl_388 : decode code 388 = .ok (.iadd, 1) := by decide +kernel
theorem dl_389 : decode code 389 = .ok (.iaload, 1) := by decide +kernel
theorem dl_390 : decode code 390 = .ok (.ifCond .eq 7, 3) := by decide +kernel
theorem dl_393 : decode code 393 = .ok (.iconst 1, 1) := by decide +kernel
theorem dl_394 : decode code 394 = .ok (.goto 4, 3) := by decide +kernel
theorem dl_397 : decode code 397 = .ok (.iconst 0, 1) := by decide +kernel
theorem dl_398 : decode code 398 = .ok (.invokevirtual 40, 3) := by decide +kernel
theorem dl_401 : decode code 401 = .ok (.if_icmp .eq 1151, 3) := by decide +kernel
theorem dl_404 : decode code 404 = .ok (.iconst 0, 1) := by decide +kernel
theorem dl_405 : decode code 405 = .ok (.ireturn, 1) := by decide +kernel
theorem dl_406 : decode code 406 = .ok (.aload_n 1, 1) := by decide +kernel
theorem dl_407 : decode code 407 = .ok (.aload_n 0, 1) := by decide +kernel
theorem dl_408 : decode code 408 = .ok (.iload_n 3, 1) := by decide +kernel
theorem dl_409 : decode code 409 = .ok (.iconst 1, 1) := by decide +kernel
theorem dl_410 : decode code 410 = .ok (.iadd, 1) := by decide +kernel
theorem dl_411 : decode code 411 = .ok (.iaload, 1) := by decide +kernel
theorem dl_412 : decode code 412 = .ok (.aload_n 0, 1) := by decide +kernel
theorem dl_413 : decode code 413 = .ok (.iload_n 3, 1) := by decide +kernel
theorem dl_414 : decode code 414 = .ok (.iconst 2, 1) := by decide +kernel
theorem dl_415 : decode code 415 = .ok (.iadd, 1) := by decide +kernel
theorem dl_416 : decode code 416 = .ok (.iaload, 1) := by decide +kernel
theorem dl_417 : decode code 417 = .ok (.aload_n 0, 1) := by decide +kernel
theorem dl_418 : decode code 418 = .ok (.iload_n 3, 1) := by decide +kernel
theorem dl_419 : decode code 419 = .ok (.iconst 3, 1) := by decide +kernel
theorem dl_420 : decode code 420 = .ok (.iadd, 1) := by decide +kernel
theorem dl_421 : decode code 421 = .ok (.iaload, 1) := by decide +kernel
theorem dl_422 : decode code 422 = .ok (.invokevirtual 41, 3) := by decide +kernel
theorem dl_425 : decode code 425 = .ok (.aload_n 2, 1) := by decide +kernel
theorem dl_426 : decode code 426 = .ok (.aload_n 0, 1) := by decide +kernel
theorem dl_427 : decode code 427 = .ok (.iload_n 3, 1) := by decide +kernel
theorem dl_428 : decode code 428 = .ok (.iconst 1, 1) := by decide +kernel
theorem dl_429 : decode code 429 = .ok (.iadd, 1) := by decide +kernel
theorem dl_430 : decode code 430 = .ok (.iaload, 1) := by decide +kernel
theorem dl_431 : decode code 431 = .ok (.aload_n 0, 1) := by decide +kernel
theorem dl_432 : decode code 432 = .ok (.iload_n 3, 1) := by decide +kernel
theorem dl_433 : decode code 433 = .ok (.iconst 2, 1) := by decide +kernel
theorem dl_434 : decode code 434 = .ok (.iadd, 1) := by decide +kernel
theorem dl_435 : decode code 435 = .ok (.iaload, 1) := by decide +kernel
theorem dl_436 : decode code 436 = .ok (.aload_n 0, 1) := by decide +kernel
theorem dl_437 : decode code 437 = .ok (.iload_n 3, 1) := by decide +kernel
theorem dl_438 : decode code 438 = .ok (.iconst 3, 1) := by decide +kernel
theorem dl_439 : decode code 439 = .ok (.iadd, 1) := by decide +kernel
theorem dl_440 : decode code 440 = .ok (.iaload, 1) := by decide +kernel
theorem dl_441 : decode code 441 = .ok (.invokevirtual 45, 3) := by decide +kernel
theorem dl_444 : decode code 444 = .ok (.if_icmp .eq 1108, 3) := by decide +kernel
theorem dl_447 : decode code 447 = .ok (.iconst 0, 1) := by decide +kernel
theorem dl_448 : decode code 448 = .ok (.ireturn, 1) := by decide +kernel
theorem dl_449 : decode code 449 = .ok (.aload_n 1, 1) := by decide +kernel
theorem dl_450 : decode code 450 = .ok (.aload_n 0, 1) := by decide +kernel
theorem dl_451 : decode code 451 = .ok (.iload_n 3, 1) := by decide +kernel
theorem dl_452 : decode code 452 = .ok (.iconst 1, 1) := by decide +kernel
theorem dl_453 : decode code 453 = .ok (.iadd, 1) := by decide +kernel
theorem dl_454 : decode code 454 = .ok (.iaload, 1) := by decide +kernel
theorem dl_455 : decode code 455 = .ok (.aload_n 0, 1) := by decide +kernel
theorem dl_456 : decode code 456 = .ok (.iload_n 3, 1) := by decide +kernel
theorem dl_457 : decode code 457 = .ok (.iconst 2, 1) := by decide +kernel
theorem dl_458 : decode code 458 = .ok (.iadd, 1) := by decide +kernel
theorem dl_459 : decode code 459 = .ok (.iaload, 1) := by decide +kernel
theorem dl_460 : decode code 460 = .ok (.invokevirtual 46, 3) := by decide +kernel
theorem dl_463 : decode code 463 = .ok (.aload_n 2, 1) := by decide +kernel
theorem dl_464 : decode code 464 = .ok (.aload_n 0, 1) := by decide +kernel
theorem dl_465 : decode code 465 = .ok (.iload_n 3, 1) := by decide +kernel
theorem dl_466 : decode code 466 = .ok (.iconst 1, 1) := by decide +kernel
theorem dl_467 : decode code 467 = .ok (.iadd, 1) := by decide +kernel
theorem dl_468 : decode code 468 = .ok (.iaload, 1) := by decide +kernel
theorem dl_469 : decode code 469 = .ok (.aload_n 0, 1) := by decide +kernel
theorem dl_470 : decode code 470 = .ok (.iload_n 3, 1) := by decide +kernel
theorem dl_471 : decode code 471 = .ok (.iconst 2, 1) := by decide +kernel
theorem dl_472 : decode code 472 = .ok (.iadd, 1) := by decide +kernel
theorem dl_473 : decode code 473 = .ok (.iaload, 1) := by decide +kernel
theorem dl_474 : decode code 474 = .ok (.invokevirtual 49, 3) := by decide +kernel
theorem dl_477 : decode code 477 = .ok (.if_icmp .eq 1075, 3) := by decide +kernel
theorem dl_480 : decode code 480 = .ok (.iconst 0, 1) := by decide +kernel
theorem dl_481 : decode code 481 = .ok (.ireturn, 1) := by decide +kernel
theorem dl_482 : decode code 482 = .ok (.aload_n 1, 1) := by decide +kernel
theorem dl_483 : decode code 483 = .ok (.aload_n 0, 1) := by decide +kernel
theorem dl_484 : decode code 484 = .ok (.iload_n 3, 1) := by decide +kernel
theorem dl_485 : decode code 485 = .ok (.iconst 1, 1) := by decide +kernel
theorem dl_486 : decode code 486 = .ok (.iadd, 1) := by decide +kernel
theorem dl_487 : decode code 487 = .ok (.iaload, 1) := by decide +kernel
theorem dl_488 : decode code 488 = .ok (.aload_n 0, 1) := by decide +kernel
theorem dl_489 : decode code 489 = .ok (.iload_n 3, 1) := by decide +kernel
theorem dl_490 : decode code 490 = .ok (.iconst 2, 1) := by decide +kernel
theorem dl_491 : decode code 491 = .ok (.iadd, 1) := by decide +kernel
theorem dl_492 : decode code 492 = .ok (.iaload, 1) := by decide +kernel
theorem dl_493 : decode code 493 = .ok (.aload_n 0, 1) := by decide +kernel
theorem dl_494 : decode code 494 = .ok (.iload_n 3, 1) := by decide +kernel
theorem dl_495 : decode code 495 = .ok (.iconst 3, 1) := by decide +kernel
theorem dl_496 : decode code 496 = .ok (.iadd, 1) := by decide +kernel
theorem dl_497 : decode code 497 = .ok (.iaload, 1) := by decide +kernel
theorem dl_498 : decode code 498 = .ok (.aload_n 0, 1) := by decide +kernel
theorem dl_499 : decode code 499 = .ok (.iload_n 3, 1) := by decide +kernel
theorem dl_500 : decode code 500 = .ok (.iconst 4, 1) := by decide +kernel
theorem dl_501 : decode code 501 = .ok (.iadd, 1) := by decide +kernel
theorem dl_502 : decode code 502 = .ok (.iaload, 1) := by decide +kernel
theorem dl_503 : decode code 503 = .ok (.invokevirtual 50, 3) := by decide +kernel
theorem dl_506 : decode code 506 = .ok (.aload_n 2, 1) := by decide +kernel
theorem dl_507 : decode code 507 = .ok (.aload_n 0, 1) := by decide +kernel
theorem dl_508 : decode code 508 = .ok (.iload_n 3, 1) := by decide +kernel
theorem dl_509 : decode code 509 = .ok (.iconst 1, 1) := by decide +kernel
theorem dl_510 : decode code 510 = .ok (.iadd, 1) := by decide +kernel
theorem dl_511 : decode code 511 = .ok (.iaload, 1) := by decide +kernel
theorem dl_512 : decode code 512 = .ok (.aload_n 0, 1) := by decide +kernel
theorem dl_513 : decode code 513 = .ok (.iload_n 3, 1) := by decide +kernel
theorem dl_514 : decode code 514 = .ok (.iconst 2, 1) := by decide +kernel
theorem dl_515 : decode code 515 = .ok (.iadd, 1) := by decide +kernel
theorem dl_516 : decode code 516 = .ok (.iaload, 1) := by decide +kernel
theorem dl_517 : decode code 517 = .ok (.aload_n 0, 1) := by decide +kernel
theorem dl_518 : decode code 518 = .ok (.iload_n 3, 1) := by decide +kernel
theorem dl_519 : decode code 519 = .ok (.iconst 3, 1) := by decide +kernel
theorem dl_520 : decode code 520 = .ok (.iadd, 1) := by decide +kernel
theorem dl_521 : decode code 521 = .ok (.iaload, 1) := by decide +kernel
theorem dl_522 : decode code 522 = .ok (.aload_n 0, 1) := by decide +kernel
theorem dl_523 : decode code 523 = .ok (.iload_n 3, 1) := by decide +kernel
theorem dl_524 : decode code 524 = .ok (.iconst 4, 1) := by decide +kernel
theorem dl_525 : decode code 525 = .ok (.iadd, 1) := by decide +kernel
theorem dl_526 : decode code 526 = .ok (.iaload, 1) := by decide +kernel
theorem dl_527 : decode code 527 = .ok (.invokevirtual 54, 3) := by decide +kernel
theorem dl_530 : decode code 530 = .ok (.if_icmp .eq 1022, 3) := by decide +kernel
theorem dl_533 : decode code 533 = .ok (.iconst 0, 1) := by decide +kernel
theorem dl_534 : decode code 534 = .ok (.ireturn, 1) := by decide +kernel
theorem dl_535 : decode code 535 = .ok (.aload_n 1, 1) := by decide +kernel
theorem dl_536 : decode code 536 = .ok (.aload_n 0, 1) := by decide +kernel
theorem dl_537 : decode code 537 = .ok (.iload_n 3, 1) := by decide +kernel
theorem dl_538 : decode code 538 = .ok (.iconst 1, 1) := by decide +kernel
theorem dl_539 : decode code 539 = .ok (.iadd, 1) := by decide +kernel
theorem dl_540 : decode code 540 = .ok (.iaload, 1) := by decide +kernel
theorem dl_541 : decode code 541 = .ok (.aload_n 0, 1) := by decide +kernel
theorem dl_542 : decode code 542 = .ok (.iload_n 3, 1) := by decide +kernel
theorem dl_543 : decode code 543 = .ok (.iconst 2, 1) := by decide +kernel
theorem dl_544 : decode code 544 = .ok (.iadd, 1) := by decide +kernel
theorem dl_545 : decode code 545 = .ok (.iaload, 1) := by decide +kernel
theorem dl_546 : decode code 546 = .ok (.aload_n 0, 1) := by decide +kernel
theorem dl_547 : decode code 547 = .ok (.iload_n 3, 1) := by decide +kernel
theorem dl_548 : decode code 548 = .ok (.iconst 3, 1) := by decide +kernel
theorem dl_549 : decode code 549 = .ok (.iadd, 1) := by decide +kernel
theorem dl_550 : decode code 550 = .ok (.iaload, 1) := by decide +kernel
theorem dl_551 : decode code 551 = .ok (.aload_n 0, 1) := by decide +kernel
theorem dl_552 : decode code 552 = .ok (.iload_n 3, 1) := by decide +kernel
theorem dl_553 : decode code 553 = .ok (.iconst 4, 1) := by decide +kernel
theorem dl_554 : decode code 554 = .ok (.iadd, 1) := by decide +kernel
theorem dl_555 : decode code 555 = .ok (.iaload, 1) := by decide +kernel
theorem dl_556 : decode code 556 = .ok (.invokevirtual 55, 3) := by decide +kernel
theorem dl_559 : decode code 559 = .ok (.aload_n 2, 1) := by decide +kernel
theorem dl_560 : decode code 560 = .ok (.aload_n 0, 1) := by decide +kernel
theorem dl_561 : decode code 561 = .ok (.iload_n 3, 1) := by decide +kernel
theorem dl_562 : decode code 562 = .ok (.iconst 1, 1) := by decide +kernel
theorem dl_563 : decode code 563 = .ok (.iadd, 1) := by decide +kernel
theorem dl_564 : decode code 564 = .ok (.iaload, 1) := by decide +kernel
theorem dl_565 : decode code 565 = .ok (.aload_n 0, 1) := by decide +kernel
theorem dl_566 : decode code 566 = .ok (.iload_n 3, 1) := by decide +kernel
theorem dl_567 : decode code 567 = .ok (.iconst 2, 1) := by decide +kernel
theorem dl_568 : decode code 568 = .ok (.iadd, 1) := by decide +kernel
theorem dl_569 : decode code 569 = .ok (.iaload, 1) := by decide +kernel
theorem dl_570 : decode code 570 = .ok (.aload_n 0, 1) := by decide +kernel
theorem dl_571 : decode code 571 = .ok (.iload_n 3, 1) := by decide +kernel
theorem dl_572 : decode code 572 = .ok (.iconst 3, 1) := by decide +kernel
theorem dl_573 : decode code 573 = .ok (.iadd, 1) := by decide +kernel
theorem dl_574 : decode code 574 = .ok (.iaload, 1) := by decide +kernel
theorem dl_575 : decode code 575 = .ok (.aload_n 0, 1) := by decide +kernel
theorem dl_576 : decode code 576 = .ok (.iload_n 3, 1) := by decide +kernel
theorem dl_577 : decode code 577 = .ok (.iconst 4, 1) := by decide +kernel
theorem dl_578 : decode code 578 = .ok (.iadd, 1) := by decide +kernel
theorem dl_579 : decode code 579 = .ok (.iaload, 1) := by decide +kernel
theorem dl_580 : decode code 580 = .ok (.invokevirtual 58, 3) := by decide +kernel
theorem dl_583 : decode code 583 = .ok (.if_icmp .eq 969, 3) := by decide +kernel
theorem dl_586 : decode code 586 = .ok (.iconst 0, 1) := by decide +kernel
theorem dl_587 : decode code 587 = .ok (.ireturn, 1) := by decide +kernel
theorem dl_588 : decode code 588 = .ok (.aload_n 1, 1) := by decide +kernel
theorem dl_589 : decode code 589 = .ok (.aload_n 0, 1) := by decide +kernel
theorem dl_590 : decode code 590 = .ok (.iload_n 3, 1) := by decide +kernel
theorem dl_591 : decode code 591 = .ok (.iconst 1, 1) := by decide +kernel
theorem dl_592 : decode code 592 = .ok (.iadd, 1) := by decide +kernel
theorem dl_593 : decode code 593 = .ok (.iaload, 1) := by decide +kernel
theorem dl_594 : decode code 594 = .ok (.aload_n 0, 1) := by decide +kernel
theorem dl_595 : decode code 595 = .ok (.iload_n 3, 1) := by decide +kernel
theorem dl_596 : decode code 596 = .ok (.iconst 2, 1) := by decide +kernel
theorem dl_597 : decode code 597 = .ok (.iadd, 1) := by decide +kernel
theorem dl_598 : decode code 598 = .ok (.iaload, 1) := by decide +kernel
theorem dl_599 : decode code 599 = .ok (.aload_n 0, 1) := by decide +kernel
theorem dl_600 : decode code 600 = .ok (.iload_n 3, 1) := by decide +kernel
theorem dl_601 : decode code 601 = .ok (.iconst 3, 1) := by decide +kernel
theorem dl_602 : decode code 602 = .ok (.iadd, 1) := by decide +kernel
theorem dl_603 : decode code 603 = .ok (.iaload, 1) := by decide +kernel
theorem dl_604 : decode code 604 = .ok (.aload_n 0, 1) := by decide +kernel
theorem dl_605 : decode code 605 = .ok (.iload_n 3, 1) := by decide +kernel
theorem dl_606 : decode code 606 = .ok (.iconst 4, 1) := by decide +kernel
theorem dl_607 : decode code 607 = .ok (.iadd, 1) := by decide +kernel
theorem dl_608 : decode code 608 = .ok (.iaload, 1) := by decide +kernel
theorem dl_609 : decode code 609 = .ok (.invokevirtual 59, 3) := by decide +kernel
theorem dl_612 : decode code 612 = .ok (.aload_n 2, 1) := by decide +kernel
theorem dl_613 : decode code 613 = .ok (.aload_n 0, 1) := by decide +kernel
theorem dl_614 : decode code 614 = .ok (.iload_n 3, 1) := by decide +kernel
theorem dl_615 : decode code 615 = .ok (.iconst 1, 1) := by decide +kernel
theorem dl_616 : decode code 616 = .ok (.iadd, 1) := by decide +kernel
theorem dl_617 : decode code 617 = .ok (.iaload, 1) := by decide +kernel
theorem dl_618 : decode code 618 = .ok (.aload_n 0, 1) := by decide +kernel
theorem dl_619 : decode code 619 = .ok (.iload_n 3, 1) := by decide +kernel
theorem dl_620 : decode code 620 = .ok (.iconst 2, 1) := by decide +kernel
theorem dl_621 : decode code 621 = .ok (.iadd, 1) := by decide +kernel
theorem dl_622 : decode code 622 = .ok (.iaload, 1) := by decide +kernel
theorem dl_623 : decode code 623 = .ok (.aload_n 0, 1) := by decide +kernel
theorem dl_624 : decode code 624 = .ok (.iload_n 3, 1) := by decide +kernel
theorem dl_625 : decode code 625 = .ok (.iconst 3, 1) := by decide +kernel
theorem dl_626 : decode code 626 = .ok (.iadd, 1) := by decide +kernel
theorem dl_627 : decode code 627 = .ok (.iaload, 1) := by decide +kernel
theorem dl_628 : decode code 628 = .ok (.aload_n 0, 1) := by decide +kernel
theorem dl_629 : decode code 629 = .ok (.iload_n 3, 1) := by decide +kernel
theorem dl_630 : decode code 630 = .ok (.iconst 4, 1) := by decide +kernel
theorem dl_631 : decode code 631 = .ok (.iadd, 1) := by decide +kernel
theorem dl_632 : decode code 632 = .ok (.iaload, 1) := by decide +kernel
theorem dl_633 : decode code 633 = .ok (.invokevirtual 62, 3) := by decide +kernel
theorem dl_636 : decode code 636 = .ok (.if_icmp .eq 916, 3) := by decide +kernel
theorem dl_639 : decode code 639 = .ok (.iconst 0, 1) := by decide +kernel
theorem dl_640 : decode code 640 = .ok (.ireturn, 1) := by decide +kernel
theorem dl_641 : decode code 641 = .ok (.aload_n 1, 1) := by decide +kernel
theorem dl_642 : decode code 642 = .ok (.aload_n 0, 1) := by decide +kernel
theorem dl_643 : decode code 643 = .ok (.iload_n 3, 1) := by decide +kernel
theorem dl_644 : decode code 644 = .ok (.iconst 1, 1) := by decide +kernel
theorem dl_645 : decode code 645 = .ok (.iadd, 1) := by decide +kernel
theorem dl_646 : decode code 646 = .ok (.iaload, 1) := by decide +kernel
theorem dl_647 : decode code 647 = .ok (.aload_n 0, 1) := by decide +kernel
theorem dl_648 : decode code 648 = .ok (.iload_n 3, 1) := by decide +kernel
theorem dl_649 : decode code 649 = .ok (.iconst 2, 1) := by decide +kernel
theorem dl_650 : decode code 650 = .ok (.iadd, 1) := by decide +kernel
theorem dl_651 : decode code 651 = .ok (.iaload, 1) := by decide +kernel
theorem dl_652 : decode code 652 = .ok (.aload_n 0, 1) := by decide +kernel
theorem dl_653 : decode code 653 = .ok (.iload_n 3, 1) := by decide +kernel
theorem dl_654 : decode code 654 = .ok (.iconst 3, 1) := by decide +kernel
theorem dl_655 : decode code 655 = .ok (.iadd, 1) := by decide +kernel
theorem dl_656 : decode code 656 = .ok (.iaload, 1) := by decide +kernel
theorem dl_657 : decode code 657 = .ok (.aload_n 0, 1) := by decide +kernel
theorem dl_658 : decode code 658 = .ok (.iload_n 3, 1) := by decide +kernel
theorem dl_659 : decode code 659 = .ok (.iconst 4, 1) := by decide +kernel
theorem dl_660 : decode code 660 = .ok (.iadd, 1) := by decide +kernel
theorem dl_661 : decode code 661 = .ok (.iaload, 1) := by decide +kernel
theorem dl_662 : decode code 662 = .ok (.invokevirtual 63, 3) := by decide +kernel
theorem dl_665 : decode code 665 = .ok (.aload_n 2, 1) := by decide +kernel
theorem dl_666 : decode code 666 = .ok (.aload_n 0, 1) := by decide +kernel
theorem dl_667 : decode code 667 = .ok (.iload_n 3, 1) := by decide +kernel
theorem dl_668 : decode code 668 = .ok (.iconst 1, 1) := by decide +kernel
theorem dl_669 : decode code 669 = .ok (.iadd, 1) := by decide +kernel
theorem dl_670 : decode code 670 = .ok (.iaload, 1) := by decide +kernel
theorem dl_671 : decode code 671 = .ok (.aload_n 0, 1) := by decide +kernel
theorem dl_672 : decode code 672 = .ok (.iload_n 3, 1) := by decide +kernel
theorem dl_673 : decode code 673 = .ok (.iconst 2, 1) := by decide +kernel
theorem dl_674 : decode code 674 = .ok (.iadd, 1) := by decide +kernel
theorem dl_675 : decode code 675 = .ok (.iaload, 1) := by decide +kernel
theorem dl_676 : decode code 676 = .ok (.aload_n 0, 1) := by decide +kernel
theorem dl_677 : decode code 677 = .ok (.iload_n 3, 1) := by decide +kernel
theorem dl_678 : decode code 678 = .ok (.iconst 3, 1) := by decide +kernel
theorem dl_679 : decode code 679 = .ok (.iadd, 1) := by decide +kernel
theorem dl_680 : decode code 680 = .ok (.iaload, 1) := by decide +kernel
theorem dl_681 : decode code 681 = .ok (.aload_n 0, 1) := by decide +kernel
theorem dl_682 : decode code 682 = .ok (.iload_n 3, 1) := by decide +kernel
theorem dl_683 : decode code 683 = .ok (.iconst 4, 1) := by decide +kernel
theorem dl_684 : decode code 684 = .ok (.iadd, 1) := by decide +kernel
theorem dl_685 : decode code 685 = .ok (.iaload, 1) := by decide +kernel
theorem dl_686 : decode code 686 = .ok (.invokevirtual 66, 3) := by decide +kernel
theorem dl_689 : decode code 689 = .ok (.if_icmp .eq 863, 3) := by decide +kernel
theorem dl_692 : decode code 692 = .ok (.iconst 0, 1) := by decide +kernel
theorem dl_693 : decode code 693 = .ok (.ireturn, 1) := by decide +kernel
theorem dl_694 : decode code 694 = .ok (.aload_n 1, 1) := by decide +kernel
theorem dl_695 : decode code 695 = .ok (.aload_n 0, 1) := by decide +kernel
theorem dl_696 : decode code 696 = .ok (.iload_n 3, 1) := by decide +kernel
theorem dl_697 : decode code 697 = .ok (.iconst 1, 1) := by decide +kernel
theorem dl_698 : decode code 698 = .ok (.iadd, 1) := by decide +kernel
theorem dl_699 : decode code 699 = .ok (.iaload, 1) := by decide +kernel
theorem dl_700 : decode code 700 = .ok (.aload_n 0, 1) := by decide +kernel
theorem dl_701 : decode code 701 = .ok (.iload_n 3, 1) := by decide +kernel
theorem dl_702 : decode code 702 = .ok (.iconst 2, 1) := by decide +kernel
theorem dl_703 : decode code 703 = .ok (.iadd, 1) := by decide +kernel
theorem dl_704 : decode code 704 = .ok (.iaload, 1) := by decide +kernel
theorem dl_705 : decode code 705 = .ok (.aload_n 0, 1) := by decide +kernel
theorem dl_706 : decode code 706 = .ok (.iload_n 3, 1) := by decide +kernel
theorem dl_707 : decode code 707 = .ok (.iconst 3, 1) := by decide +kernel
theorem dl_708 : decode code 708 = .ok (.iadd, 1) := by decide +kernel
theorem dl_709 : decode code 709 = .ok (.iaload, 1) := by decide +kernel
theorem dl_710 : decode code 710 = .ok (.invokevirtual 67, 3) := by decide +kernel
theorem dl_713 : decode code 713 = .ok (.aload_n 2, 1) := by decide +kernel
theorem dl_714 : decode code 714 = .ok (.aload_n 0, 1) := by decide +kernel
theorem dl_715 : decode code 715 = .ok (.iload_n 3, 1) := by decide +kernel
theorem dl_716 : decode code 716 = .ok (.iconst 1, 1) := by decide +kernel
theorem dl_717 : decode code 717 = .ok (.iadd, 1) := by decide +kernel
theorem dl_718 : decode code 718 = .ok (.iaload, 1) := by decide +kernel
theorem dl_719 : decode code 719 = .ok (.aload_n 0, 1) := by decide +kernel
theorem dl_720 : decode code 720 = .ok (.iload_n 3, 1) := by decide +kernel
theorem dl_721 : decode code 721 = .ok (.iconst 2, 1) := by decide +kernel
theorem dl_722 : decode code 722 = .ok (.iadd, 1) := by decide +kernel
theorem dl_723 : decode code 723 = .ok (.iaload, 1) := by decide +kernel
theorem dl_724 : decode code 724 = .ok (.aload_n 0, 1) := by decide +kernel
theorem dl_725 : decode code 725 = .ok (.iload_n 3, 1) := by decide +kernel
theorem dl_726 : decode code 726 = .ok (.iconst 3, 1) := by decide +kernel
theorem dl_727 : decode code 727 = .ok (.iadd, 1) := by decide +kernel
theorem dl_728 : decode code 728 = .ok (.iaload, 1) := by decide +kernel
theorem dl_729 : decode code 729 = .ok (.invokevirtual 70, 3) := by decide +kernel
theorem dl_732 : decode code 732 = .ok (.if_icmp .eq 820, 3) := by decide +kernel
theorem dl_735 : decode code 735 = .ok (.iconst 0, 1) := by decide +kernel
theorem dl_736 : decode code 736 = .ok (.ireturn, 1) := by decide +kernel
theorem dl_737 : decode code 737 = .ok (.aload_n 1, 1) := by decide +kernel
theorem dl_738 : decode code 738 = .ok (.aload_n 0, 1) := by decide +kernel
theorem dl_739 : decode code 739 = .ok (.iload_n 3, 1) := by decide +kernel
theorem dl_740 : decode code 740 = .ok (.iconst 1, 1) := by decide +kernel
theorem dl_741 : decode code 741 = .ok (.iadd, 1) := by decide +kernel
theorem dl_742 : decode code 742 = .ok (.iaload, 1) := by decide +kernel
theorem dl_743 : decode code 743 = .ok (.aload_n 0, 1) := by decide +kernel
theorem dl_744 : decode code 744 = .ok (.iload_n 3, 1) := by decide +kernel
theorem dl_745 : decode code 745 = .ok (.iconst 2, 1) := by decide +kernel
theorem dl_746 : decode code 746 = .ok (.iadd, 1) := by decide +kernel
theorem dl_747 : decode code 747 = .ok (.iaload, 1) := by decide +kernel
theorem dl_748 : decode code 748 = .ok (.aload_n 0, 1) := by decide +kernel
theorem dl_749 : decode code 749 = .ok (.iload_n 3, 1) := by decide +kernel
theorem dl_750 : decode code 750 = .ok (.iconst 3, 1) := by decide +kernel
theorem dl_751 : decode code 751 = .ok (.iadd, 1) := by decide +kernel
theorem dl_752 : decode code 752 = .ok (.iaload, 1) := by decide +kernel
theorem dl_753 : decode code 753 = .ok (.invokevirtual 71, 3) := by decide +kernel
theorem dl_756 : decode code 756 = .ok (.aload_n 2, 1) := by decide +kernel
theorem dl_757 : decode code 757 = .ok (.aload_n 0, 1) := by decide +kernel
theorem dl_758 : decode code 758 = .ok (.iload_n 3, 1) := by decide +kernel
theorem dl_759 : decode code 759 = .ok (.iconst 1, 1) := by decide +kernel
theorem dl_760 : decode code 760 = .ok (.iadd, 1) := by decide +kernel
theorem dl_761 : decode code 761 = .ok (.iaload, 1) := by decide +kernel
theorem dl_762 : decode code 762 = .ok (.aload_n 0, 1) := by decide +kernel
theorem dl_763 : decode code 763 = .ok (.iload_n 3, 1) := by decide +kernel
theorem dl_764 : decode code 764 = .ok (.iconst 2, 1) := by decide +kernel
theorem dl_765 : decode code 765 = .ok (.iadd, 1) := by decide +kernel
theorem dl_766 : decode code 766 = .ok (.iaload, 1) := by decide +kernel
theorem dl_767 : decode code 767 = .ok (.aload_n 0, 1) := by decide +kernel
theorem dl_768 : decode code 768 = .ok (.iload_n 3, 1) := by decide +kernel
theorem dl_769 : decode code 769 = .ok (.iconst 3, 1) := by decide +kernel
theorem dl_770 : decode code 770 = .ok (.iadd, 1) := by decide +kernel
theorem dl_771 : decode code 771 = .ok (.iaload, 1) := by decide +kernel
theorem dl_772 : decode code 772 = .ok (.invokevirtual 74, 3) := by decide +kernel
theorem dl_775 : decode code 775 = .ok (.if_icmp .eq 777, 3) := by decide +kernel
theorem dl_778 : decode code 778 = .ok (.iconst 0, 1) := by decide +kernel
theorem dl_779 : decode code 779 = .ok (.ireturn, 1) := by decide +kernel
theorem dl_780 : decode code 780 = .ok (.aload_n 1, 1) := by decide +kernel
theorem dl_781 : decode code 781 = .ok (.aload_n 0, 1) := by decide +kernel
theorem dl_782 : decode code 782 = .ok (.iload_n 3, 1) := by decide +kernel
theorem dl_783 : decode code 783 = .ok (.iconst 1, 1) := by decide +kernel
theorem dl_784 : decode code 784 = .ok (.iadd, 1) := by decide +kernel
theorem dl_785 : decode code 785 = .ok (.iaload, 1) := by decide +kernel
theorem dl_786 : decode code 786 = .ok (.aload_n 0, 1) := by decide +kernel
theorem dl_787 : decode code 787 = .ok (.iload_n 3, 1) := by decide +kernel
theorem dl_788 : decode code 788 = .ok (.iconst 2, 1) := by decide +kernel
theorem dl_789 : decode code 789 = .ok (.iadd, 1) := by decide +kernel
theorem dl_790 : decode code 790 = .ok (.iaload, 1) := by decide +kernel
theorem dl_791 : decode code 791 = .ok (.aload_n 0, 1) := by decide +kernel
theorem dl_792 : decode code 792 = .ok (.iload_n 3, 1) := by decide +kernel
theorem dl_793 : decode code 793 = .ok (.iconst 3, 1) := by decide +kernel
theorem dl_794 : decode code 794 = .ok (.iadd, 1) := by decide +kernel
theorem dl_795 : decode code 795 = .ok (.iaload, 1) := by decide +kernel
theorem dl_796 : decode code 796 = .ok (.invokevirtual 75, 3) := by decide +kernel
theorem dl_799 : decode code 799 = .ok (.aload_n 2, 1) := by decide +kernel
theorem dl_800 : decode code 800 = .ok (.aload_n 0, 1) := by decide +kernel
theorem dl_801 : decode code 801 = .ok (.iload_n 3, 1) := by decide +kernel
theorem dl_802 : decode code 802 = .ok (.iconst 1, 1) := by decide +kernel
theorem dl_803 : decode code 803 = .ok (.iadd, 1) := by decide +kernel
theorem dl_804 : decode code 804 = .ok (.iaload, 1) := by decide +kernel
theorem dl_805 : decode code 805 = .ok (.aload_n 0, 1) := by decide +kernel
theorem dl_806 : decode code 806 = .ok (.iload_n 3, 1) := by decide +kernel
theorem dl_807 : decode code 807 = .ok (.iconst 2, 1) := by decide +kernel
theorem dl_808 : decode code 808 = .ok (.iadd, 1) := by decide +kernel
theorem dl_809 : decode code 809 = .ok (.iaload, 1) := by decide +kernel
theorem dl_810 : decode code 810 = .ok (.aload_n 0, 1) := by decide +kernel
theorem dl_811 : decode code 811 = .ok (.iload_n 3, 1) := by decide +kernel
theorem dl_812 : decode code 812 = .ok (.iconst 3, 1) := by decide +kernel
theorem dl_813 : decode code 813 = .ok (.iadd, 1) := by decide +kernel
theorem dl_814 : decode code 814 = .ok (.iaload, 1) := by decide +kernel
theorem dl_815 : decode code 815 = .ok (.invokevirtual 78, 3) := by decide +kernel
theorem dl_818 : decode code 818 = .ok (.if_icmp .eq 734, 3) := by decide +kernel
theorem dl_821 : decode code 821 = .ok (.iconst 0, 1) := by decide +kernel
theorem dl_822 : decode code 822 = .ok (.ireturn, 1) := by decide +kernel
theorem dl_823 : decode code 823 = .ok (.aload_n 1, 1) := by decide +kernel
theorem dl_824 : decode code 824 = .ok (.aload_n 0, 1) := by decide +kernel
theorem dl_825 : decode code 825 = .ok (.iload_n 3, 1) := by decide +kernel
theorem dl_826 : decode code 826 = .ok (.iconst 1, 1) := by decide +kernel
theorem dl_827 : decode code 827 = .ok (.iadd, 1) := by decide +kernel
theorem dl_828 : decode code 828 = .ok (.iaload, 1) := by decide +kernel
theorem dl_829 : decode code 829 = .ok (.aload_n 0, 1) := by decide +kernel
theorem dl_830 : decode code 830 = .ok (.iload_n 3, 1) := by decide +kernel
theorem dl_831 : decode code 831 = .ok (.iconst 2, 1) := by decide +kernel
theorem dl_832 : decode code 832 = .ok (.iadd, 1) := by decide +kernel
theorem dl_833 : decode code 833 = .ok (.iaload, 1) := by decide +kernel
theorem dl_834 : decode code 834 = .ok (.ifCond .eq 7, 3) := by decide +kernel
theorem dl_837 : decode code 837 = .ok (.iconst 1, 1) := by decide +kernel
theorem dl_838 : decode code 838 = .ok (.goto 4, 3) := by decide +kernel
theorem dl_841 : decode code 841 = .ok (.iconst 0, 1) := by decide +kernel
theorem dl_842 : decode code 842 = .ok (.invokevirtual 79, 3) := by decide +kernel
theorem dl_845 : decode code 845 = .ok (.aload_n 2, 1) := by decide +kernel
theorem dl_846 : decode code 846 = .ok (.aload_n 0, 1) := by decide +kernel
theorem dl_847 : decode code 847 = .ok (.iload_n 3, 1) := by decide +kernel
theorem dl_848 : decode code 848 = .ok (.iconst 1, 1) := by decide +kernel
theorem dl_849 : decode code 849 = .ok (.iadd, 1) := by decide +kernel
theorem dl_850 : decode code 850 = .ok (.iaload, 1) := by decide +kernel
theorem dl_851 : decode code 851 = .ok (.aload_n 0, 1) := by decide +kernel
theorem dl_852 : decode code 852 = .ok (.iload_n 3, 1) := by decide +kernel
theorem dl_853 : decode code 853 = .ok (.iconst 2, 1) := by decide +kernel
theorem dl_854 : decode code 854 = .ok (.iadd, 1) := by decide +kernel
theorem dl_855 : decode code 855 = .ok (.iaload, 1) := by decide +kernel
theorem dl_856 : decode code 856 = .ok (.ifCond .eq 7, 3) := by decide +kernel
theorem dl_859 : decode code 859 = .ok (.iconst 1, 1) := by decide +kernel
theorem dl_860 : decode code 860 = .ok (.goto 4, 3) := by decide +kernel
theorem dl_863 : decode code 863 = .ok (.iconst 0, 1) := by decide +kernel
theorem dl_864 : decode code 864 = .ok (.invokevirtual 83, 3) := by decide +kernel
theorem dl_867 : decode code 867 = .ok (.if_icmp .eq 685, 3) := by decide +kernel
theorem dl_870 : decode code 870 = .ok (.iconst 0, 1) := by decide +kernel
theorem dl_871 : decode code 871 = .ok (.ireturn, 1) := by decide +kernel
theorem dl_872 : decode code 872 = .ok (.aload_n 1, 1) := by decide +kernel
theorem dl_873 : decode code 873 = .ok (.aload_n 0, 1) := by decide +kernel
theorem dl_874 : decode code 874 = .ok (.iload_n 3, 1) := by decide +kernel
theorem dl_875 : decode code 875 = .ok (.iconst 1, 1) := by decide +kernel
theorem dl_876 : decode code 876 = .ok (.iadd, 1) := by decide +kernel
theorem dl_877 : decode code 877 = .ok (.iaload, 1) := by decide +kernel
theorem dl_878 : decode code 878 = .ok (.aload_n 0, 1) := by decide +kernel
theorem dl_879 : decode code 879 = .ok (.iload_n 3, 1) := by decide +kernel
theorem dl_880 : decode code 880 = .ok (.iconst 2, 1) := by decide +kernel
theorem dl_881 : decode code 881 = .ok (.iadd, 1) := by decide +kernel
theorem dl_882 : decode code 882 = .ok (.iaload, 1) := by decide +kernel
theorem dl_883 : decode code 883 = .ok (.aload_n 0, 1) := by decide +kernel
theorem dl_884 : decode code 884 = .ok (.iload_n 3, 1) := by decide +kernel
theorem dl_885 : decode code 885 = .ok (.iconst 3, 1) := by decide +kernel
theorem dl_886 : decode code 886 = .ok (.iadd, 1) := by decide +kernel
theorem dl_887 : decode code 887 = .ok (.iaload, 1) := by decide +kernel
theorem dl_888 : decode code 888 = .ok (.invokevirtual 84, 3) := by decide +kernel
theorem dl_891 : decode code 891 = .ok (.aload_n 2, 1) := by decide +kernel
theorem dl_892 : decode code 892 = .ok (.aload_n 0, 1) := by decide +kernel
theorem dl_893 : decode code 893 = .ok (.iload_n 3, 1) := by decide +kernel
theorem dl_894 : decode code 894 = .ok (.iconst 1, 1) := by decide +kernel
theorem dl_895 : decode code 895 = .ok (.iadd, 1) := by decide +kernel
theorem dl_896 : decode code 896 = .ok (.iaload, 1) := by decide +kernel
theorem dl_897 : decode code 897 = .ok (.aload_n 0, 1) := by decide +kernel
theorem dl_898 : decode code 898 = .ok (.iload_n 3, 1) := by decide +kernel
theorem dl_899 : decode code 899 = .ok (.iconst 2, 1) := by decide +kernel
theorem dl_900 : decode code 900 = .ok (.iadd, 1) := by decide +kernel
theorem dl_901 : decode code 901 = .ok (.iaload, 1) := by decide +kernel
theorem dl_902 : decode code 902 = .ok (.aload_n 0, 1) := by decide +kernel
theorem dl_903 : decode code 903 = .ok (.iload_n 3, 1) := by decide +kernel
theorem dl_904 : decode code 904 = .ok (.iconst 3, 1) := by decide +kernel
theorem dl_905 : decode code 905 = .ok (.iadd, 1) := by decide +kernel
theorem dl_906 : decode code 906 = .ok (.iaload, 1) := by decide +kernel
theorem dl_907 : decode code 907 = .ok (.invokevirtual 87, 3) := by decide +kernel
theorem dl_910 : decode code 910 = .ok (.if_icmp .eq 642, 3) := by decide +kernel
theorem dl_913 : decode code 913 = .ok (.iconst 0, 1) := by decide +kernel
theorem dl_914 : decode code 914 = .ok (.ireturn, 1) := by decide +kernel
theorem dl_915 : decode code 915 = .ok (.aload_n 1, 1) := by decide +kernel
theorem dl_916 : decode code 916 = .ok (.aload_n 0, 1) := by decide +kernel
theorem dl_917 : decode code 917 = .ok (.iload_n 3, 1) := by decide +kernel
theorem dl_918 : decode code 918 = .ok (.iconst 1, 1) := by decide +kernel
theorem dl_919 : decode code 919 = .ok (.iadd, 1) := by decide +kernel
theorem dl_920 : decode code 920 = .ok (.iaload, 1) := by decide +kernel
theorem dl_921 : decode code 921 = .ok (.aload_n 0, 1) := by decide +kernel
theorem dl_922 : decode code 922 = .ok (.iload_n 3, 1) := by decide +kernel
theorem dl_923 : decode code 923 = .ok (.iconst 2, 1) := by decide +kernel
theorem dl_924 : decode code 924 = .ok (.iadd, 1) := by decide +kernel
theorem dl_925 : decode code 925 = .ok (.iaload, 1) := by decide +kernel
theorem dl_926 : decode code 926 = .ok (.aload_n 0, 1) := by decide +kernel
theorem dl_927 : decode code 927 = .ok (.iload_n 3, 1) := by decide +kernel
theorem dl_928 : decode code 928 = .ok (.iconst 3, 1) := by decide +kernel
theorem dl_929 : decode code 929 = .ok (.iadd, 1) := by decide +kernel
theorem dl_930 : decode code 930 = .ok (.iaload, 1) := by decide +kernel
theorem dl_931 : decode code 931 = .ok (.invokevirtual 88, 3) := by decide +kernel
theorem dl_934 : decode code 934 = .ok (.aload_n 2, 1) := by decide +kernel
theorem dl_935 : decode code 935 = .ok (.aload_n 0, 1) := by decide +kernel
theorem dl_936 : decode code 936 = .ok (.iload_n 3, 1) := by decide +kernel
theorem dl_937 : decode code 937 = .ok (.iconst 1, 1) := by decide +kernel
theorem dl_938 : decode code 938 = .ok (.iadd, 1) := by decide +kernel
theorem dl_939 : decode code 939 = .ok (.iaload, 1) := by decide +kernel
theorem dl_940 : decode code 940 = .ok (.aload_n 0, 1) := by decide +kernel
theorem dl_941 : decode code 941 = .ok (.iload_n 3, 1) := by decide +kernel
theorem dl_942 : decode code 942 = .ok (.iconst 2, 1) := by decide +kernel
theorem dl_943 : decode code 943 = .ok (.iadd, 1) := by decide +kernel
theorem dl_944 : decode code 944 = .ok (.iaload, 1) := by decide +kernel
theorem dl_945 : decode code 945 = .ok (.aload_n 0, 1) := by decide +kernel
theorem dl_946 : decode code 946 = .ok (.iload_n 3, 1) := by decide +kernel
theorem dl_947 : decode code 947 = .ok (.iconst 3, 1) := by decide +kernel
theorem dl_948 : decode code 948 = .ok (.iadd, 1) := by decide +kernel
theorem dl_949 : decode code 949 = .ok (.iaload, 1) := by decide +kernel
theorem dl_950 : decode code 950 = .ok (.invokevirtual 91, 3) := by decide +kernel
theorem dl_953 : decode code 953 = .ok (.if_icmp .eq 599, 3) := by decide +kernel
theorem dl_956 : decode code 956 = .ok (.iconst 0, 1) := by decide +kernel
theorem dl_957 : decode code 957 = .ok (.ireturn, 1) := by decide +kernel
theorem dl_958 : decode code 958 = .ok (.aload_n 1, 1) := by decide +kernel
theorem dl_959 : decode code 959 = .ok (.aload_n 0, 1) := by decide +kernel
theorem dl_960 : decode code 960 = .ok (.iload_n 3, 1) := by decide +kernel
theorem dl_961 : decode code 961 = .ok (.iconst 1, 1) := by decide +kernel
theorem dl_962 : decode code 962 = .ok (.iadd, 1) := by decide +kernel
theorem dl_963 : decode code 963 = .ok (.iaload, 1) := by decide +kernel
theorem dl_964 : decode code 964 = .ok (.aload_n 0, 1) := by decide +kernel
theorem dl_965 : decode code 965 = .ok (.iload_n 3, 1) := by decide +kernel
theorem dl_966 : decode code 966 = .ok (.iconst 2, 1) := by decide +kernel
theorem dl_967 : decode code 967 = .ok (.iadd, 1) := by decide +kernel
theorem dl_968 : decode code 968 = .ok (.iaload, 1) := by decide +kernel
theorem dl_969 : decode code 969 = .ok (.aload_n 0, 1) := by decide +kernel
theorem dl_970 : decode code 970 = .ok (.iload_n 3, 1) := by decide +kernel
theorem dl_971 : decode code 971 = .ok (.iconst 3, 1) := by decide +kernel
theorem dl_972 : decode code 972 = .ok (.iadd, 1) := by decide +kernel
theorem dl_973 : decode code 973 = .ok (.iaload, 1) := by decide +kernel
theorem dl_974 : decode code 974 = .ok (.aload_n 0, 1) := by decide +kernel
theorem dl_975 : decode code 975 = .ok (.iload_n 3, 1) := by decide +kernel
theorem dl_976 : decode code 976 = .ok (.iconst 4, 1) := by decide +kernel
theorem dl_977 : decode code 977 = .ok (.iadd, 1) := by decide +kernel
theorem dl_978 : decode code 978 = .ok (.iaload, 1) := by decide +kernel
theorem dl_979 : decode code 979 = .ok (.aload_n 0, 1) := by decide +kernel
theorem dl_980 : decode code 980 = .ok (.iload_n 3, 1) := by decide +kernel
theorem dl_981 : decode code 981 = .ok (.iconst 5, 1) := by decide +kernel
theorem dl_982 : decode code 982 = .ok (.iadd, 1) := by decide +kernel
theorem dl_983 : decode code 983 = .ok (.iaload, 1) := by decide +kernel
theorem dl_984 : decode code 984 = .ok (.invokevirtual 92, 3) := by decide +kernel
theorem dl_987 : decode code 987 = .ok (.aload_n 2, 1) := by decide +kernel
theorem dl_988 : decode code 988 = .ok (.aload_n 0, 1) := by decide +kernel
theorem dl_989 : decode code 989 = .ok (.iload_n 3, 1) := by decide +kernel
theorem dl_990 : decode code 990 = .ok (.iconst 1, 1) := by decide +kernel
theorem dl_991 : decode code 991 = .ok (.iadd, 1) := by decide +kernel
theorem dl_992 : decode code 992 = .ok (.iaload, 1) := by decide +kernel
theorem dl_993 : decode code 993 = .ok (.aload_n 0, 1) := by decide +kernel
theorem dl_994 : decode code 994 = .ok (.iload_n 3, 1) := by decide +kernel
theorem dl_995 : decode code 995 = .ok (.iconst 2, 1) := by decide +kernel
theorem dl_996 : decode code 996 = .ok (.iadd, 1) := by decide +kernel
theorem dl_997 : decode code 997 = .ok (.iaload, 1) := by decide +kernel
theorem dl_998 : decode code 998 = .ok (.aload_n 0, 1) := by decide +kernel
theorem dl_999 : decode code 999 = .ok (.iload_n 3, 1) := by decide +kernel
theorem dl_1000 : decode code 1000 = .ok (.iconst 3, 1) := by decide +kernel
theorem dl_1001 : decode code 1001 = .ok (.iadd, 1) := by decide +kernel
theorem dl_1002 : decode code 1002 = .ok (.iaload, 1) := by decide +kernel
theorem dl_1003 : decode code 1003 = .ok (.aload_n 0, 1) := by decide +kernel
theorem dl_1004 : decode code 1004 = .ok (.iload_n 3, 1) := by decide +kernel
theorem dl_1005 : decode code 1005 = .ok (.iconst 4, 1) := by decide +kernel
theorem dl_1006 : decode code 1006 = .ok (.iadd, 1) := by decide +kernel
theorem dl_1007 : decode code 1007 = .ok (.iaload, 1) := by decide +kernel
theorem dl_1008 : decode code 1008 = .ok (.aload_n 0, 1) := by decide +kernel
theorem dl_1009 : decode code 1009 = .ok (.iload_n 3, 1) := by decide +kernel
theorem dl_1010 : decode code 1010 = .ok (.iconst 5, 1) := by decide +kernel
theorem dl_1011 : decode code 1011 = .ok (.iadd, 1) := by decide +kernel
theorem dl_1012 : decode code 1012 = .ok (.iaload, 1) := by decide +kernel
theorem dl_1013 : decode code 1013 = .ok (.invokevirtual 95, 3) := by decide +kernel
theorem dl_1016 : decode code 1016 = .ok (.if_icmp .eq 536, 3) := by decide +kernel
theorem dl_1019 : decode code 1019 = .ok (.iconst 0, 1) := by decide +kernel
theorem dl_1020 : decode code 1020 = .ok (.ireturn, 1) := by decide +kernel
theorem dl_1021 : decode code 1021 = .ok (.aload_n 1, 1) := by decide +kernel
theorem dl_1022 : decode code 1022 = .ok (.aload_n 0, 1) := by decide +kernel
theorem dl_1023 : decode code 1023 = .ok (.iload_n 3, 1) := by decide +kernel
theorem dl_1024 : decode code 1024 = .ok (.iconst 1, 1) := by decide +kernel
theorem dl_1025 : decode code 1025 = .ok (.iadd, 1) := by decide +kernel
theorem dl_1026 : decode code 1026 = .ok (.iaload, 1) := by decide +kernel
theorem dl_1027 : decode code 1027 = .ok (.aload_n 0, 1) := by decide +kernel
theorem dl_1028 : decode code 1028 = .ok (.iload_n 3, 1) := by decide +kernel
theorem dl_1029 : decode code 1029 = .ok (.iconst 2, 1) := by decide +kernel
theorem dl_1030 : decode code 1030 = .ok (.iadd, 1) := by decide +kernel
theorem dl_1031 : decode code 1031 = .ok (.iaload, 1) := by decide +kernel
theorem dl_1032 : decode code 1032 = .ok (.aload_n 0, 1) := by decide +kernel
theorem dl_1033 : decode code 1033 = .ok (.iload_n 3, 1) := by decide +kernel
theorem dl_1034 : decode code 1034 = .ok (.iconst 3, 1) := by decide +kernel
theorem dl_1035 : decode code 1035 = .ok (.iadd, 1) := by decide +kernel
theorem dl_1036 : decode code 1036 = .ok (.iaload, 1) := by decide +kernel
theorem dl_1037 : decode code 1037 = .ok (.aload_n 0, 1) := by decide +kernel
theorem dl_1038 : decode code 1038 = .ok (.iload_n 3, 1) := by decide +kernel
theorem dl_1039 : decode code 1039 = .ok (.iconst 4, 1) := by decide +kernel
theorem dl_1040 : decode code 1040 = .ok (.iadd, 1) := by decide +kernel
theorem dl_1041 : decode code 1041 = .ok (.iaload, 1) := by decide +kernel
theorem dl_1042 : decode code 1042 = .ok (.ifCond .eq 7, 3) := by decide +kernel
theorem dl_1045 : decode code 1045 = .ok (.iconst 1, 1) := by decide +kernel
theorem dl_1046 : decode code 1046 = .ok (.goto 4, 3) := by decide +kernel
theorem dl_1049 : decode code 1049 = .ok (.iconst 0, 1) := by decide +kernel
theorem dl_1050 : decode code 1050 = .ok (.invokevirtual 96, 3) := by decide +kernel
theorem dl_1053 : decode code 1053 = .ok (.aload_n 2, 1) := by decide +kernel
theorem dl_1054 : decode code 1054 = .ok (.aload_n 0, 1) := by decide +kernel
theorem dl_1055 : decode code 1055 = .ok (.iload_n 3, 1) := by decide +kernel
theorem dl_1056 : decode code 1056 = .ok (.iconst 1, 1) := by decide +kernel
theorem dl_1057 : decode code 1057 = .ok (.iadd, 1) := by decide +kernel
theorem dl_1058 : decode code 1058 = .ok (.iaload, 1) := by decide +kernel
theorem dl_1059 : decode code 1059 = .ok (.aload_n 0, 1) := by decide +kernel
theorem dl_1060 : decode code 1060 = .ok (.iload_n 3, 1) := by decide +kernel
theorem dl_1061 : decode code 1061 = .ok (.iconst 2, 1) := by decide +kernel
theorem dl_1062 : decode code 1062 = .ok (.iadd, 1) := by decide +kernel
theorem dl_1063 : decode code 1063 = .ok (.iaload, 1) := by decide +kernel
theorem dl_1064 : decode code 1064 = .ok (.aload_n 0, 1) := by decide +kernel
theorem dl_1065 : decode code 1065 = .ok (.iload_n 3, 1) := by decide +kernel
theorem dl_1066 : decode code 1066 = .ok (.iconst 3, 1) := by decide +kernel
theorem dl_1067 : decode code 1067 = .ok (.iadd, 1) := by decide +kernel
theorem dl_1068 : decode code 1068 = .ok (.iaload, 1) := by decide +kernel
theorem dl_1069 : decode code 1069 = .ok (.aload_n 0, 1) := by decide +kernel
theorem dl_1070 : decode code 1070 = .ok (.iload_n 3, 1) := by decide +kernel
theorem dl_1071 : decode code 1071 = .ok (.iconst 4, 1) := by decide +kernel
theorem dl_1072 : decode code 1072 = .ok (.iadd, 1) := by decide +kernel
theorem dl_1073 : decode code 1073 = .ok (.iaload, 1) := by decide +kernel
theorem dl_1074 : decode code 1074 = .ok (.ifCond .eq 7, 3) := by decide +kernel
theorem dl_1077 : decode code 1077 = .ok (.iconst 1, 1) := by decide +kernel
theorem dl_1078 : decode code 1078 = .ok (.goto 4, 3) := by decide +kernel
theorem dl_1081 : decode code 1081 = .ok (.iconst 0, 1) := by decide +kernel
theorem dl_1082 : decode code 1082 = .ok (.invokevirtual 100, 3) := by decide +kernel
theorem dl_1085 : decode code 1085 = .ok (.if_icmp .eq 467, 3) := by decide +kernel
theorem dl_1088 : decode code 1088 = .ok (.iconst 0, 1) := by decide +kernel
theorem dl_1089 : decode code 1089 = .ok (.ireturn, 1) := by decide +kernel
theorem dl_1090 : decode code 1090 = .ok (.aload_n 1, 1) := by decide +kernel
theorem dl_1091 : decode code 1091 = .ok (.aload_n 0, 1) := by decide +kernel
theorem dl_1092 : decode code 1092 = .ok (.iload_n 3, 1) := by decide +kernel
theorem dl_1093 : decode code 1093 = .ok (.iconst 1, 1) := by decide +kernel
theorem dl_1094 : decode code 1094 = .ok (.iadd, 1) := by decide +kernel
theorem dl_1095 : decode code 1095 = .ok (.iaload, 1) := by decide +kernel
theorem dl_1096 : decode code 1096 = .ok (.aload_n 0, 1) := by decide +kernel
theorem dl_1097 : decode code 1097 = .ok (.iload_n 3, 1) := by decide +kernel
theorem dl_1098 : decode code 1098 = .ok (.iconst 2, 1) := by decide +kernel
theorem dl_1099 : decode code 1099 = .ok (.iadd, 1) := by decide +kernel
theorem dl_1100 : decode code 1100 = .ok (.iaload, 1) := by decide +kernel
theorem dl_1101 : decode code 1101 = .ok (.aload_n 0, 1) := by decide +kernel
theorem dl_1102 : decode code 1102 = .ok (.iload_n 3, 1) := by decide +kernel
theorem dl_1103 : decode code 1103 = .ok (.iconst 3, 1) := by decide +kernel
theorem dl_1104 : decode code 1104 = .ok (.iadd, 1) := by decide +kernel
theorem dl_1105 : decode code 1105 = .ok (.iaload, 1) := by decide +kernel
theorem dl_1106 : decode code 1106 = .ok (.invokevirtual 101, 3) := by decide +kernel
theorem dl_1109 : decode code 1109 = .ok (.aload_n 2, 1) := by decide +kernel
theorem dl_1110 : decode code 1110 = .ok (.aload_n 0, 1) := by decide +kernel
theorem dl_1111 : decode code 1111 = .ok (.iload_n 3, 1) := by decide +kernel
theorem dl_1112 : decode code 1112 = .ok (.iconst 1, 1) := by decide +kernel
theorem dl_1113 : decode code 1113 = .ok (.iadd, 1) := by decide +kernel
theorem dl_1114 : decode code 1114 = .ok (.iaload, 1) := by decide +kernel
theorem dl_1115 : decode code 1115 = .ok (.aload_n 0, 1) := by decide +kernel
theorem dl_1116 : decode code 1116 = .ok (.iload_n 3, 1) := by decide +kernel
theorem dl_1117 : decode code 1117 = .ok (.iconst 2, 1) := by decide +kernel
theorem dl_1118 : decode code 1118 = .ok (.iadd, 1) := by decide +kernel
theorem dl_1119 : decode code 1119 = .ok (.iaload, 1) := by decide +kernel
theorem dl_1120 : decode code 1120 = .ok (.aload_n 0, 1) := by decide +kernel
theorem dl_1121 : decode code 1121 = .ok (.iload_n 3, 1) := by decide +kernel
theorem dl_1122 : decode code 1122 = .ok (.iconst 3, 1) := by decide +kernel
theorem dl_1123 : decode code 1123 = .ok (.iadd, 1) := by decide +kernel
theorem dl_1124 : decode code 1124 = .ok (.iaload, 1) := by decide +kernel
theorem dl_1125 : decode code 1125 = .ok (.invokevirtual 104, 3) := by decide +kernel
theorem dl_1128 : decode code 1128 = .ok (.if_icmp .eq 424, 3) := by decide +kernel
theorem dl_1131 : decode code 1131 = .ok (.iconst 0, 1) := by decide +kernel
theorem dl_1132 : decode code 1132 = .ok (.ireturn, 1) := by decide +kernel
theorem dl_1133 : decode code 1133 = .ok (.aload_n 1, 1) := by decide +kernel
theorem dl_1134 : decode code 1134 = .ok (.aload_n 0, 1) := by decide +kernel
theorem dl_1135 : decode code 1135 = .ok (.iload_n 3, 1) := by decide +kernel
theorem dl_1136 : decode code 1136 = .ok (.iconst 1, 1) := by decide +kernel
theorem dl_1137 : decode code 1137 = .ok (.iadd, 1) := by decide +kernel
theorem dl_1138 : decode code 1138 = .ok (.iaload, 1) := by decide +kernel
theorem dl_1139 : decode code 1139 = .ok (.aload_n 0, 1) := by decide +kernel
theorem dl_1140 : decode code 1140 = .ok (.iload_n 3, 1) := by decide +kernel
theorem dl_1141 : decode code 1141 = .ok (.iconst 2, 1) := by decide +kernel
theorem dl_1142 : decode code 1142 = .ok (.iadd, 1) := by decide +kernel
theorem dl_1143 : decode code 1143 = .ok (.iaload, 1) := by decide +kernel
theorem dl_1144 : decode code 1144 = .ok (.aload_n 0, 1) := by decide +kernel
theorem dl_1145 : decode code 1145 = .ok (.iload_n 3, 1) := by decide +kernel
theorem dl_1146 : decode code 1146 = .ok (.iconst 3, 1) := by decide +kernel
theorem dl_1147 : decode code 1147 = .ok (.iadd, 1) := by decide +kernel
theorem dl_1148 : decode code 1148 = .ok (.iaload, 1) := by decide +kernel
theorem dl_1149 : decode code 1149 = .ok (.aload_n 0, 1) := by decide +kernel
theorem dl_1150 : decode code 1150 = .ok (.iload_n 3, 1) := by decide +kernel
theorem dl_1151 : decode code 1151 = .ok (.iconst 4, 1) := by decide +kernel
theorem dl_1152 : decode code 1152 = .ok (.iadd, 1) := by decide +kernel
theorem dl_1153 : decode code 1153 = .ok (.iaload, 1) := by decide +kernel
theorem dl_1154 : decode code 1154 = .ok (.invokevirtual 105, 3) := by decide +kernel
theorem dl_1157 : decode code 1157 = .ok (.aload_n 2, 1) := by decide +kernel
theorem dl_1158 : decode code 1158 = .ok (.aload_n 0, 1) := by decide +kernel
theorem dl_1159 : decode code 1159 = .ok (.iload_n 3, 1) := by decide +kernel
theorem dl_1160 : decode code 1160 = .ok (.iconst 1, 1) := by decide +kernel
theorem dl_1161 : decode code 1161 = .ok (.iadd, 1) := by decide +kernel
theorem dl_1162 : decode code 1162 = .ok (.iaload, 1) := by decide +kernel
theorem dl_1163 : decode code 1163 = .ok (.aload_n 0, 1) := by decide +kernel
theorem dl_1164 : decode code 1164 = .ok (.iload_n 3, 1) := by decide +kernel
theorem dl_1165 : decode code 1165 = .ok (.iconst 2, 1) := by decide +kernel
theorem dl_1166 : decode code 1166 = .ok (.iadd, 1) := by decide +kernel
theorem dl_1167 : decode code 1167 = .ok (.iaload, 1) := by decide +kernel
theorem dl_1168 : decode code 1168 = .ok (.aload_n 0, 1) := by decide +kernel
theorem dl_1169 : decode code 1169 = .ok (.iload_n 3, 1) := by decide +kernel
theorem dl_1170 : decode code 1170 = .ok (.iconst 3, 1) := by decide +kernel
theorem dl_1171 : decode code 1171 = .ok (.iadd, 1) := by decide +kernel
theorem dl_1172 : decode code 1172 = .ok (.iaload, 1) := by decide +kernel
theorem dl_1173 : decode code 1173 = .ok (.aload_n 0, 1) := by decide +kernel
theorem dl_1174 : decode code 1174 = .ok (.iload_n 3, 1) := by decide +kernel
theorem dl_1175 : decode code 1175 = .ok (.iconst 4, 1) := by decide +kernel
theorem dl_1176 : decode code 1176 = .ok (.iadd, 1) := by decide +kernel
theorem dl_1177 : decode code 1177 = .ok (.iaload, 1) := by decide +kernel
theorem dl_1178 : decode code 1178 = .ok (.invokevirtual 109, 3) := by decide +kernel
theorem dl_1181 : decode code 1181 = .ok (.lcmp, 1) := by decide +kernel
theorem dl_1182 : decode code 1182 = .ok (.ifCond .eq 370, 3) := by decide +kernel
theorem dl_1185 : decode code 1185 = .ok (.iconst 0, 1) := by decide +kernel
theorem dl_1186 : decode code 1186 = .ok (.ireturn, 1) := by decide +kernel
theorem dl_1187 : decode code 1187 = .ok (.aload_n 1, 1) := by decide +kernel
theorem dl_1188 : decode code 1188 = .ok (.aload_n 0, 1) := by decide +kernel
theorem dl_1189 : decode code 1189 = .ok (.iload_n 3, 1) := by decide +kernel
theorem dl_1190 : decode code 1190 = .ok (.iconst 1, 1) := by decide +kernel
theorem dl_1191 : decode code 1191 = .ok (.iadd, 1) := by decide +kernel
theorem dl_1192 : decode code 1192 = .ok (.iaload, 1) := by decide +kernel
theorem dl_1193 : decode code 1193 = .ok (.aload_n 0, 1) := by decide +kernel
theorem dl_1194 : decode code 1194 = .ok (.iload_n 3, 1) := by decide +kernel
theorem dl_1195 : decode code 1195 = .ok (.iconst 2, 1) := by decide +kernel
theorem dl_1196 : decode code 1196 = .ok (.iadd, 1) := by decide +kernel
theorem dl_1197 : decode code 1197 = .ok (.iaload, 1) := by decide +kernel
theorem dl_1198 : decode code 1198 = .ok (.aload_n 0, 1) := by decide +kernel
theorem dl_1199 : decode code 1199 = .ok (.iload_n 3, 1) := by decide +kernel
theorem dl_1200 : decode code 1200 = .ok (.iconst 3, 1) := by decide +kernel
theorem dl_1201 : decode code 1201 = .ok (.iadd, 1) := by decide +kernel
theorem dl_1202 : decode code 1202 = .ok (.iaload, 1) := by decide +kernel
theorem dl_1203 : decode code 1203 = .ok (.aload_n 0, 1) := by decide +kernel
theorem dl_1204 : decode code 1204 = .ok (.iload_n 3, 1) := by decide +kernel
theorem dl_1205 : decode code 1205 = .ok (.iconst 4, 1) := by decide +kernel
theorem dl_1206 : decode code 1206 = .ok (.iadd, 1) := by decide +kernel
theorem dl_1207 : decode code 1207 = .ok (.iaload, 1) := by decide +kernel
theorem dl_1208 : decode code 1208 = .ok (.invokevirtual 110, 3) := by decide +kernel
theorem dl_1211 : decode code 1211 = .ok (.aload_n 2, 1) := by decide +kernel
theorem dl_1212 : decode code 1212 = .ok (.aload_n 0, 1) := by decide +kernel
theorem dl_1213 : decode code 1213 = .ok (.iload_n 3, 1) := by decide +kernel
theorem dl_1214 : decode code 1214 = .ok (.iconst 1, 1) := by decide +kernel
theorem dl_1215 : decode code 1215 = .ok (.iadd, 1) := by decide +kernel
theorem dl_1216 : decode code 1216 = .ok (.iaload, 1) := by decide +kernel
theorem dl_1217 : decode code 1217 = .ok (.aload_n 0, 1) := by decide +kernel
theorem dl_1218 : decode code 1218 = .ok (.iload_n 3, 1) := by decide +kernel
theorem dl_1219 : decode code 1219 = .ok (.iconst 2, 1) := by decide +kernel
theorem dl_1220 : decode code 1220 = .ok (.iadd, 1) := by decide +kernel
theorem dl_1221 : decode code 1221 = .ok (.iaload, 1) := by decide +kernel
theorem dl_1222 : decode code 1222 = .ok (.aload_n 0, 1) := by decide +kernel
theorem dl_1223 : decode code 1223 = .ok (.iload_n 3, 1) := by decide +kernel
theorem dl_1224 : decode code 1224 = .ok (.iconst 3, 1) := by decide +kernel
theorem dl_1225 : decode code 1225 = .ok (.iadd, 1) := by decide +kernel
theorem dl_1226 : decode code 1226 = .ok (.iaload, 1) := by decide +kernel
theorem dl_1227 : decode code 1227 = .ok (.aload_n 0, 1) := by decide +kernel
theorem dl_1228 : decode code 1228 = .ok (.iload_n 3, 1) := by decide +kernel
theorem dl_1229 : decode code 1229 = .ok (.iconst 4, 1) := by decide +kernel
theorem dl_1230 : decode code 1230 = .ok (.iadd, 1) := by decide +kernel
theorem dl_1231 : decode code 1231 = .ok (.iaload, 1) := by decide +kernel
theorem dl_1232 : decode code 1232 = .ok (.invokevirtual 113, 3) := by decide +kernel
theorem dl_1235 : decode code 1235 = .ok (.if_icmp .eq 317, 3) := by decide +kernel
theorem dl_1238 : decode code 1238 = .ok (.iconst 0, 1) := by decide +kernel
theorem dl_1239 : decode code 1239 = .ok (.ireturn, 1) := by decide +kernel
theorem dl_1240 : decode code 1240 = .ok (.aload_n 1, 1) := by decide +kernel
theorem dl_1241 : decode code 1241 = .ok (.aload_n 0, 1) := by decide +kernel
theorem dl_1242 : decode code 1242 = .ok (.iload_n 3, 1) := by decide +kernel
theorem dl_1243 : decode code 1243 = .ok (.iconst 1, 1) := by decide +kernel
theorem dl_1244 : decode code 1244 = .ok (.iadd, 1) := by decide +kernel
theorem dl_1245 : decode code 1245 = .ok (.iaload, 1) := by decide +kernel
theorem dl_1246 : decode code 1246 = .ok (.aload_n 0, 1) := by decide +kernel
theorem dl_1247 : decode code 1247 = .ok (.iload_n 3, 1) := by decide +kernel
theorem dl_1248 : decode code 1248 = .ok (.iconst 2, 1) := by decide +kernel
theorem dl_1249 : decode code 1249 = .ok (.iadd, 1) := by decide +kernel
theorem dl_1250 : decode code 1250 = .ok (.iaload, 1) := by decide +kernel
theorem dl_1251 : decode code 1251 = .ok (.aload_n 0, 1) := by decide +kernel
theorem dl_1252 : decode code 1252 = .ok (.iload_n 3, 1) := by decide +kernel
theorem dl_1253 : decode code 1253 = .ok (.iconst 3, 1) := by decide +kernel
theorem dl_1254 : decode code 1254 = .ok (.iadd, 1) := by decide +kernel
theorem dl_1255 : decode code 1255 = .ok (.iaload, 1) := by decide +kernel
theorem dl_1256 : decode code 1256 = .ok (.aload_n 0, 1) := by decide +kernel
theorem dl_1257 : decode code 1257 = .ok (.iload_n 3, 1) := by decide +kernel
theorem dl_1258 : decode code 1258 = .ok (.iconst 4, 1) := by decide +kernel
theorem dl_1259 : decode code 1259 = .ok (.iadd, 1) := by decide +kernel
theorem dl_1260 : decode code 1260 = .ok (.iaload, 1) := by decide +kernel
theorem dl_1261 : decode code 1261 = .ok (.invokevirtual 114, 3) := by decide +kernel
theorem dl_1264 : decode code 1264 = .ok (.aload_n 2, 1) := by decide +kernel
theorem dl_1265 : decode code 1265 = .ok (.aload_n 0, 1) := by decide +kernel
theorem dl_1266 : decode code 1266 = .ok (.iload_n 3, 1) := by decide +kernel
theorem dl_1267 : decode code 1267 = .ok (.iconst 1, 1) := by decide +kernel
theorem dl_1268 : decode code 1268 = .ok (.iadd, 1) := by decide +kernel
theorem dl_1269 : decode code 1269 = .ok (.iaload, 1) := by decide +kernel
theorem dl_1270 : decode code 1270 = .ok (.aload_n 0, 1) := by decide +kernel
theorem dl_1271 : decode code 1271 = .ok (.iload_n 3, 1) := by decide +kernel
theorem dl_1272 : decode code 1272 = .ok (.iconst 2, 1) := by decide +kernel
theorem dl_1273 : decode code 1273 = .ok (.iadd, 1) := by decide +kernel
theorem dl_1274 : decode code 1274 = .ok (.iaload, 1) := by decide +kernel
theorem dl_1275 : decode code 1275 = .ok (.aload_n 0, 1) := by decide +kernel
theorem dl_1276 : decode code 1276 = .ok (.iload_n 3, 1) := by decide +kernel
theorem dl_1277 : decode code 1277 = .ok (.iconst 3, 1) := by decide +kernel
theorem dl_1278 : decode code 1278 = .ok (.iadd, 1) := by decide +kernel
theorem dl_1279 : decode code 1279 = .ok (.iaload, 1) := by decide +kernel
theorem dl_1280 : decode code 1280 = .ok (.aload_n 0, 1) := by decide +kernel
theorem dl_1281 : decode code 1281 = .ok (.iload_n 3, 1) := by decide +kernel
theorem dl_1282 : decode code 1282 = .ok (.iconst 4, 1) := by decide +kernel
theorem dl_1283 : decode code 1283 = .ok (.iadd, 1) := by decide +kernel
theorem dl_1284 : decode code 1284 = .ok (.iaload, 1) := by decide +kernel
theorem dl_1285 : decode code 1285 = .ok (.invokevirtual 117, 3) := by decide +kernel
theorem dl_1288 : decode code 1288 = .ok (.if_icmp .eq 264, 3) := by decide +kernel
theorem dl_1291 : decode code 1291 = .ok (.iconst 0, 1) := by decide +kernel
theorem dl_1292 : decode code 1292 = .ok (.ireturn, 1) := by decide +kernel
theorem dl_1293 : decode code 1293 = .ok (.aload_n 1, 1) := by decide +kernel
theorem dl_1294 : decode code 1294 = .ok (.aload_n 0, 1) := by decide +kernel
theorem dl_1295 : decode code 1295 = .ok (.iload_n 3, 1) := by decide +kernel
theorem dl_1296 : decode code 1296 = .ok (.iconst 1, 1) := by decide +kernel
theorem dl_1297 : decode code 1297 = .ok (.iadd, 1) := by decide +kernel
theorem dl_1298 : decode code 1298 = .ok (.iaload, 1) := by decide +kernel
theorem dl_1299 : decode code 1299 = .ok (.aload_n 0, 1) := by decide +kernel
theorem dl_1300 : decode code 1300 = .ok (.iload_n 3, 1) := by decide +kernel
theorem dl_1301 : decode code 1301 = .ok (.iconst 2, 1) := by decide +kernel
theorem dl_1302 : decode code 1302 = .ok (.iadd, 1) := by decide +kernel
theorem dl_1303 : decode code 1303 = .ok (.iaload, 1) := by decide +kernel
theorem dl_1304 : decode code 1304 = .ok (.aload_n 0, 1) := by decide +kernel
theorem dl_1305 : decode code 1305 = .ok (.iload_n 3, 1) := by decide +kernel
theorem dl_1306 : decode code 1306 = .ok (.iconst 3, 1) := by decide +kernel
theorem dl_1307 : decode code 1307 = .ok (.iadd, 1) := by decide +kernel
theorem dl_1308 : decode code 1308 = .ok (.iaload, 1) := by decide +kernel
theorem dl_1309 : decode code 1309 = .ok (.aload_n 0, 1) := by decide +kernel
theorem dl_1310 : decode code 1310 = .ok (.iload_n 3, 1) := by decide +kernel
theorem dl_1311 : decode code 1311 = .ok (.iconst 4, 1) := by decide +kernel
theorem dl_1312 : decode code 1312 = .ok (.iadd, 1) := by decide +kernel
theorem dl_1313 : decode code 1313 = .ok (.iaload, 1) := by decide +kernel
theorem dl_1314 : decode code 1314 = .ok (.ifCond .eq 7, 3) := by decide +kernel
theorem dl_1317 : decode code 1317 = .ok (.iconst 1, 1) := by decide +kernel
theorem dl_1318 : decode code 1318 = .ok (.goto 4, 3) := by decide +kernel
theorem dl_1321 : decode code 1321 = .ok (.iconst 0, 1) := by decide +kernel
theorem dl_1322 : decode code 1322 = .ok (.invokevirtual 118, 3) := by decide +kernel
theorem dl_1325 : decode code 1325 = .ok (.aload_n 2, 1) := by decide +kernel
theorem dl_1326 : decode code 1326 = .ok (.aload_n 0, 1) := by decide +kernel
theorem dl_1327 : decode code 1327 = .ok (.iload_n 3, 1) := by decide +kernel
theorem dl_1328 : decode code 1328 = .ok (.iconst 1, 1) := by decide +kernel
theorem dl_1329 : decode code 1329 = .ok (.iadd, 1) := by decide +kernel
theorem dl_1330 : decode code 1330 = .ok (.iaload, 1) := by decide +kernel
theorem dl_1331 : decode code 1331 = .ok (.aload_n 0, 1) := by decide +kernel
theorem dl_1332 : decode code 1332 = .ok (.iload_n 3, 1) := by decide +kernel
theorem dl_1333 : decode code 1333 = .ok (.iconst 2, 1) := by decide +kernel
theorem dl_1334 : decode code 1334 = .ok (.iadd, 1) := by decide +kernel
theorem dl_1335 : decode code 1335 = .ok (.iaload, 1) := by decide +kernel
theorem dl_1336 : decode code 1336 = .ok (.aload_n 0, 1) := by decide +kernel
theorem dl_1337 : decode code 1337 = .ok (.iload_n 3, 1) := by decide +kernel
theorem dl_1338 : decode code 1338 = .ok (.iconst 3, 1) := by decide +kernel
theorem dl_1339 : decode code 1339 = .ok (.iadd, 1) := by decide +kernel
theorem dl_1340 : decode code 1340 = .ok (.iaload, 1) := by decide +kernel
theorem dl_1341 : decode code 1341 = .ok (.aload_n 0, 1) := by decide +kernel
theorem dl_1342 : decode code 1342 = .ok (.iload_n 3, 1) := by decide +kernel
theorem dl_1343 : decode code 1343 = .ok (.iconst 4, 1) := by decide +kernel
theorem dl_1344 : decode code 1344 = .ok (.iadd, 1) := by decide +kernel
theorem dl_1345 : decode code 1345 = .ok (.iaload, 1) := by decide +kernel
theorem dl_1346 : decode code 1346 = .ok (.ifCond .eq 7, 3) := by decide +kernel
theorem dl_1349 : decode code 1349 = .ok (.iconst 1, 1) := by decide +kernel
theorem dl_1350 : decode code 1350 = .ok (.goto 4, 3) := by decide +kernel
theorem dl_1353 : decode code 1353 = .ok (.iconst 0, 1) := by decide +kernel
theorem dl_1354 : decode code 1354 = .ok (.invokevirtual 121, 3) := by decide +kernel
theorem dl_1357 : decode code 1357 = .ok (.if_icmp .eq 195, 3) := by decide +kernel
theorem dl_1360 : decode code 1360 = .ok (.iconst 0, 1) := by decide +kernel
theorem dl_1361 : decode code 1361 = .ok (.ireturn, 1) := by decide +kernel
theorem dl_1362 : decode code 1362 = .ok (.aload_n 1, 1) := by decide +kernel
theorem dl_1363 : decode code 1363 = .ok (.aload_n 0, 1) := by decide +kernel
theorem dl_1364 : decode code 1364 = .ok (.iload_n 3, 1) := by decide +kernel
theorem dl_1365 : decode code 1365 = .ok (.iconst 1, 1) := by decide +kernel
theorem dl_1366 : decode code 1366 = .ok (.iadd, 1) := by decide +kernel
theorem dl_1367 : decode code 1367 = .ok (.iaload, 1) := by decide +kernel
theorem dl_1368 : decode code 1368 = .ok (.aload_n 0, 1) := by decide +kernel
theorem dl_1369 : decode code 1369 = .ok (.iload_n 3, 1) := by decide +kernel
theorem dl_1370 : decode code 1370 = .ok (.iconst 2, 1) := by decide +kernel
theorem dl_1371 : decode code 1371 = .ok (.iadd, 1) := by decide +kernel
theorem dl_1372 : decode code 1372 = .ok (.iaload, 1) := by decide +kernel
theorem dl_1373 : decode code 1373 = .ok (.ifCond .eq 7, 3) := by decide +kernel
theorem dl_1376 : decode code 1376 = .ok (.iconst 1, 1) := by decide +kernel
theorem dl_1377 : decode code 1377 = .ok (.goto 4, 3) := by decide +kernel
theorem dl_1380 : decode code 1380 = .ok (.iconst 0, 1) := by decide +kernel
theorem dl_1381 : decode code 1381 = .ok (.invokevirtual 122, 3) := by decide +kernel
theorem dl_1384 : decode code 1384 = .ok (.aload_n 2, 1) := by decide +kernel
theorem dl_1385 : decode code 1385 = .ok (.aload_n 0, 1) := by decide +kernel
theorem dl_1386 : decode code 1386 = .ok (.iload_n 3, 1) := by decide +kernel
theorem dl_1387 : decode code 1387 = .ok (.iconst 1, 1) := by decide +kernel
theorem dl_1388 : decode code 1388 = .ok (.iadd, 1) := by decide +kernel
theorem dl_1389 : decode code 1389 = .ok (.iaload, 1) := by decide +kernel
theorem dl_1390 : decode code 1390 = .ok (.aload_n 0, 1) := by decide +kernel
theorem dl_1391 : decode code 1391 = .ok (.iload_n 3, 1) := by decide +kernel
theorem dl_1392 : decode code 1392 = .ok (.iconst 2, 1) := by decide +kernel
theorem dl_1393 : decode code 1393 = .ok (.iadd, 1) := by decide +kernel
theorem dl_1394 : decode code 1394 = .ok (.iaload, 1) := by decide +kernel
theorem dl_1395 : decode code 1395 = .ok (.ifCond .eq 7, 3) := by decide +kernel
theorem dl_1398 : decode code 1398 = .ok (.iconst 1, 1) := by decide +kernel
theorem dl_1399 : decode code 1399 = .ok (.goto 4, 3) := by decide +kernel
theorem dl_1402 : decode code 1402 = .ok (.iconst 0, 1) := by decide +kernel
theorem dl_1403 : decode code 1403 = .ok (.invokevirtual 125, 3) := by decide +kernel
theorem dl_1406 : decode code 1406 = .ok (.if_icmp .eq 146, 3) := by decide +kernel
theorem dl_1409 : decode code 1409 = .ok (.iconst 0, 1) := by decide +kernel
theorem dl_1410 : decode code 1410 = .ok (.ireturn, 1) := by decide +kernel
theorem dl_1411 : decode code 1411 = .ok (.aload_n 1, 1) := by decide +kernel
theorem dl_1412 : decode code 1412 = .ok (.aload_n 0, 1) := by decide +kernel
theorem dl_1413 : decode code 1413 = .ok (.iload_n 3, 1) := by decide +kernel
theorem dl_1414 : decode code 1414 = .ok (.iconst 1, 1) := by decide +kernel
theorem dl_1415 : decode code 1415 = .ok (.iadd, 1) := by decide +kernel
theorem dl_1416 : decode code 1416 = .ok (.iaload, 1) := by decide +kernel
theorem dl_1417 : decode code 1417 = .ok (.aload_n 0, 1) := by decide +kernel
theorem dl_1418 : decode code 1418 = .ok (.iload_n 3, 1) := by decide +kernel
theorem dl_1419 : decode code 1419 = .ok (.iconst 2, 1) := by decide +kernel
theorem dl_1420 : decode code 1420 = .ok (.iadd, 1) := by decide +kernel
theorem dl_1421 : decode code 1421 = .ok (.iaload, 1) := by decide +kernel
theorem dl_1422 : decode code 1422 = .ok (.ifCond .eq 7, 3) := by decide +kernel
theorem dl_1425 : decode code 1425 = .ok (.iconst 1, 1) := by decide +kernel
theorem dl_1426 : decode code 1426 = .ok (.goto 4, 3) := by decide +kernel
theorem dl_1429 : decode code 1429 = .ok (.iconst 0, 1) := by decide +kernel
theorem dl_1430 : decode code 1430 = .ok (.invokevirtual 126, 3) := by decide +kernel
theorem dl_1433 : decode code 1433 = .ok (.aload_n 2, 1) := by decide +kernel
theorem dl_1434 : decode code 1434 = .ok (.aload_n 0, 1) := by decide +kernel
theorem dl_1435 : decode code 1435 = .ok (.iload_n 3, 1) := by decide +kernel
theorem dl_1436 : decode code 1436 = .ok (.iconst 1, 1) := by decide +kernel
theorem dl_1437 : decode code 1437 = .ok (.iadd, 1) := by decide +kernel
theorem dl_1438 : decode code 1438 = .ok (.iaload, 1) := by decide +kernel
theorem dl_1439 : decode code 1439 = .ok (.aload_n 0, 1) := by decide +kernel
theorem dl_1440 : decode code 1440 = .ok (.iload_n 3, 1) := by decide +kernel
theorem dl_1441 : decode code 1441 = .ok (.iconst 2, 1) := by decide +kernel
theorem dl_1442 : decode code 1442 = .ok (.iadd, 1) := by decide +kernel
theorem dl_1443 : decode code 1443 = .ok (.iaload, 1) := by decide +kernel
theorem dl_1444 : decode code 1444 = .ok (.ifCond .eq 7, 3) := by decide +kernel
theorem dl_1447 : decode code 1447 = .ok (.iconst 1, 1) := by decide +kernel
theorem dl_1448 : decode code 1448 = .ok (.goto 4, 3) := by decide +kernel
theorem dl_1451 : decode code 1451 = .ok (.iconst 0, 1) := by decide +kernel
theorem dl_1452 : decode code 1452 = .ok (.invokevirtual 129, 3) := by decide +kernel
theorem dl_1455 : decode code 1455 = .ok (.if_icmp .eq 97, 3) := by decide +kernel
theorem dl_1458 : decode code 1458 = .ok (.iconst 0, 1) := by decide +kernel
theorem dl_1459 : decode code 1459 = .ok (.ireturn, 1) := by decide +kernel
theorem dl_1460 : decode code 1460 = .ok (.aload_n 1, 1) := by decide +kernel
theorem dl_1461 : decode code 1461 = .ok (.aload_n 0, 1) := by decide +kernel
theorem dl_1462 : decode code 1462 = .ok (.iload_n 3, 1) := by decide +kernel
theorem dl_1463 : decode code 1463 = .ok (.iconst 1, 1) := by decide +kernel
theorem dl_1464 : decode code 1464 = .ok (.iadd, 1) := by decide +kernel
theorem dl_1465 : decode code 1465 = .ok (.iaload, 1) := by decide +kernel
theorem dl_1466 : decode code 1466 = .ok (.invokevirtual 130, 3) := by decide +kernel
theorem dl_1469 : decode code 1469 = .ok (.aload_n 2, 1) := by decide +kernel
theorem dl_1470 : decode code 1470 = .ok (.aload_n 0, 1) := by decide +kernel
theorem dl_1471 : decode code 1471 = .ok (.iload_n 3, 1) := by decide +kernel
theorem dl_1472 : decode code 1472 = .ok (.iconst 1, 1) := by decide +kernel
theorem dl_1473 : decode code 1473 = .ok (.iadd, 1) := by decide +kernel
theorem dl_1474 : decode code 1474 = .ok (.iaload, 1) := by decide +kernel
theorem dl_1475 : decode code 1475 = .ok (.invokevirtual 133, 3) := by decide +kernel
theorem dl_1478 : decode code 1478 = .ok (.if_icmp .eq 74, 3) := by decide +kernel
theorem dl_1481 : decode code 1481 = .ok (.iconst 0, 1) := by decide +kernel
theorem dl_1482 : decode code 1482 = .ok (.ireturn, 1) := by decide +kernel
theorem dl_1483 : decode code 1483 = .ok (.aload_n 1, 1) := by decide +kernel
theorem dl_1484 : decode code 1484 = .ok (.aload_n 0, 1) := by decide +kernel
theorem dl_1485 : decode code 1485 = .ok (.iload_n 3, 1) := by decide +kernel
theorem dl_1486 : decode code 1486 = .ok (.iconst 1, 1) := by decide +kernel
theorem dl_1487 : decode code 1487 = .ok (.iadd, 1) := by decide +kernel
theorem dl_1488 : decode code 1488 = .ok (.iaload, 1) := by decide +kernel
theorem dl_1489 : decode code 1489 = .ok (.invokevirtual 134, 3) := by decide +kernel
theorem dl_1492 : decode code 1492 = .ok (.aload_n 2, 1) := by decide +kernel
theorem dl_1493 : decode code 1493 = .ok (.aload_n 0, 1) := by decide +kernel
theorem dl_1494 : decode code 1494 = .ok (.iload_n 3, 1) := by decide +kernel
theorem dl_1495 : decode code 1495 = .ok (.iconst 1, 1) := by decide +kernel
theorem dl_1496 : decode code 1496 = .ok (.iadd, 1) := by decide +kernel
theorem dl_1497 : decode code 1497 = .ok (.iaload, 1) := by decide +kernel
theorem dl_1498 : decode code 1498 = .ok (.invokevirtual 137, 3) := by decide +kernel
theorem dl_1501 : decode code 1501 = .ok (.if_icmp .eq 51, 3) := by decide +kernel
theorem dl_1504 : decode code 1504 = .ok (.iconst 0, 1) := by decide +kernel
theorem dl_1505 : decode code 1505 = .ok (.ireturn, 1) := by decide +kernel
theorem dl_1506 : decode code 1506 = .ok (.aload_n 1, 1) := by decide +kernel
theorem dl_1507 : decode code 1507 = .ok (.aload_n 0, 1) := by decide +kernel
theorem dl_1508 : decode code 1508 = .ok (.iload_n 3, 1) := by decide +kernel
theorem dl_1509 : decode code 1509 = .ok (.iconst 1, 1) := by decide +kernel
theorem dl_1510 : decode code 1510 = .ok (.iadd, 1) := by decide +kernel
theorem dl_1511 : decode code 1511 = .ok (.iaload, 1) := by decide +kernel
theorem dl_1512 : decode code 1512 = .ok (.invokevirtual 138, 3) := by decide +kernel
theorem dl_1515 : decode code 1515 = .ok (.aload_n 2, 1) := by decide +kernel
theorem dl_1516 : decode code 1516 = .ok (.aload_n 0, 1) := by decide +kernel
theorem dl_1517 : decode code 1517 = .ok (.iload_n 3, 1) := by decide +kernel
theorem dl_1518 : decode code 1518 = .ok (.iconst 1, 1) := by decide +kernel
theorem dl_1519 : decode code 1519 = .ok (.iadd, 1) := by decide +kernel
theorem dl_1520 : decode code 1520 = .ok (.iaload, 1) := by decide +kernel
theorem dl_1521 : decode code 1521 = .ok (.invokevirtual 142, 3) := by decide +kernel
theorem dl_1524 : decode code 1524 = .ok (.if_icmp .eq 28, 3) := by decide +kernel
theorem dl_1527 : decode code 1527 = .ok (.iconst 0, 1) := by decide +kernel
theorem dl_1528 : decode code 1528 = .ok (.ireturn, 1) := by decide +kernel
theorem dl_1529 : decode code 1529 = .ok (.aload_n 1, 1) := by decide +kernel
theorem dl_1530 : decode code 1530 = .ok (.aload_n 0, 1) := by decide +kernel
theorem dl_1531 : decode code 1531 = .ok (.iload_n 3, 1) := by decide +kernel
theorem dl_1532 : decode code 1532 = .ok (.iconst 1, 1) := by decide +kernel
theorem dl_1533 : decode code 1533 = .ok (.iadd, 1) := by decide +kernel
theorem dl_1534 : decode code 1534 = .ok (.iaload, 1) := by decide +kernel
theorem dl_1535 : decode code 1535 = .ok (.invokevirtual 143, 3) := by decide +kernel
theorem dl_1538 : decode code 1538 = .ok (.aload_n 2, 1) := by decide +kernel
theorem dl_1539 : decode code 1539 = .ok (.aload_n 0, 1) := by decide +kernel
theorem dl_1540 : decode code 1540 = .ok (.iload_n 3, 1) := by decide +kernel
theorem dl_1541 : decode code 1541 = .ok (.iconst 1, 1) := by decide +kernel
theorem dl_1542 : decode code 1542 = .ok (.iadd, 1) := by decide +kernel
theorem dl_1543 : decode code 1543 = .ok (.iaload, 1) := by decide +kernel
theorem dl_1544 : decode code 1544 = .ok (.invokevirtual 146, 3) := by decide +kernel
theorem dl_1547 : decode code 1547 = .ok (.if_icmp .eq 5, 3) := by decide +kernel
theorem dl_1550 : decode code 1550 = .ok (.iconst 0, 1) := by decide +kernel
theorem dl_1551 : decode code 1551 = .ok (.ireturn, 1) := by decide +kernel
theorem dl_1552 : decode code 1552 = .ok (.iinc 3 6, 3) := by decide +kernel
theorem dl_1555 : decode code 1555 = .ok (.goto (-1537), 3) := by decide +kernel
theorem dl_1558 : decode code 1558 = .ok (.iconst 1, 1) := by decide +kernel
theorem dl_1559 : decode code 1559 = .ok (.ireturn, 1) := by decide +kernel
theorem mw_141 : Cond.classLink "FerryLandLaw" 7 "FerryLand" ∈ gt := gtm1 21 (by decide +kernel) rfl
theorem mw_142 : Cond.instantiable RX10 8 ∈ gt := gtm1 22 (by decide +kernel) rfl
theorem mw_143 : Cond.methodLink "FerryLandLaw" 9 yX10_init ∈ gt := gtm1 23 (by decide +kernel) rfl
theorem mw_144 : Cond.instanceMethod yX10_init ∈ gt := gtm1 24 (by decide +kernel) rfl
theorem mw_145 : Cond.code yX10_init cX10_init 1 none ∈ gt := gtm1 25 (by decide +kernel) rfl
theorem mw_553 : Cond.methodLink "FerryLandLaw" 13 yX10_feed ∈ gt := gtm2 193 (by decide +kernel) rfl
theorem mw_554 : Cond.instanceMethod yX10_feed ∈ gt := gtm2 194 (by decide +kernel) rfl
theorem mw_555 : Cond.selects RX10 yX10_feed yX10_feed ∈ gt := gtm2 195 (by decide +kernel) rfl
theorem mw_556 : Cond.code yX10_feed cX10_feed 6 (some .int) ∈ gt := gtm2 196 (by decide +kernel) rfl
theorem mw_561 : Cond.methodLink "FerryLandLaw" 18 yX10_end ∈ gt := gtm2 201 (by decide +kernel) rfl
theorem mw_562 : Cond.instanceMethod yX10_end ∈ gt := gtm2 202 (by decide +kernel) rfl
theorem mw_563 : Cond.selects RX10 yX10_end yX10_end ∈ gt := gtm2 203 (by decide +kernel) rfl
theorem mw_564 : Cond.code yX10_end cX10_end 2 (some .int) ∈ gt := gtm2 204 (by decide +kernel) rfl
theorem mw_565 : Cond.methodLink "FerryLandLaw" 23 yX10_text ∈ gt := gtm2 205 (by decide +kernel) rfl
theorem mw_566 : Cond.instanceMethod yX10_text ∈ gt := gtm2 206 (by decide +kernel) rfl
theorem mw_567 : Cond.selects RX10 yX10_text yX10_text ∈ gt := gtm2 207 (by decide +kernel) rfl
theorem mw_568 : Cond.code yX10_text cX10_text 4 (some .int) ∈ gt := gtm2 208 (by decide +kernel) rfl
theorem mw_765 : Cond.methodLink "FerryLandLaw" 28 yX10_fault ∈ gt := gtm3 165 (by decide +kernel) rfl
theorem mw_766 : Cond.instanceMethod yX10_fault ∈ gt := gtm3 166 (by decide +kernel) rfl
theorem mw_767 : Cond.selects RX10 yX10_fault yX10_fault ∈ gt := gtm3 167 (by decide +kernel) rfl
theorem mw_768 : Cond.code yX10_fault cX10_fault 2 (some .int) ∈ gt := gtm3 168 (by decide +kernel) rfl
theorem mw_769 : Cond.methodLink "FerryLandLaw" 32 yX10_land ∈ gt := gtm3 169 (by decide +kernel) rfl
theorem mw_770 : Cond.instanceMethod yX10_land ∈ gt := gtm3 170 (by decide +kernel) rfl
theorem mw_771 : Cond.selects RX10 yX10_land yX10_land ∈ gt := gtm3 171 (by decide +kernel) rfl
theorem mw_772 : Cond.code yX10_land cX10_land 4 (some .int) ∈ gt := gtm3 172 (by decide +kernel) rfl
theorem mw_781 : Cond.methodLink "FerryLandLaw" 36 yX10_cell ∈ gt := gtm3 181 (by decide +kernel) rfl
theorem mw_782 : Cond.instanceMethod yX10_cell ∈ gt := gtm3 182 (by decide +kernel) rfl
theorem mw_783 : Cond.selects RX10 yX10_cell yX10_cell ∈ gt := gtm3 183 (by decide +kernel) rfl
theorem mw_784 : Cond.code yX10_cell cX10_cell 5 (some .int) ∈ gt := gtm3 184 (by decide +kernel) rfl
theorem mw_794 : Cond.methodLink "FerryLandLaw" 41 yX10_deed ∈ gt := gtm3 194 (by decide +kernel) rfl
theorem mw_795 : Cond.instanceMethod yX10_deed ∈ gt := gtm3 195 (by decide +kernel) rfl
theorem mw_796 : Cond.selects RX10 yX10_deed yX10_deed ∈ gt := gtm3 196 (by decide +kernel) rfl
theorem mw_797 : Cond.code yX10_deed cX10_deed 5 (some .int) ∈ gt := gtm3 197 (by decide +kernel) rfl
theorem mw_811 : Cond.methodLink "FerryLandLaw" 46 yX10_stop ∈ gt := gtm3 211 (by decide +kernel) rfl
theorem mw_812 : Cond.instanceMethod yX10_stop ∈ gt := gtm3 212 (by decide +kernel) rfl
theorem mw_813 : Cond.selects RX10 yX10_stop yX10_stop ∈ gt := gtm3 213 (by decide +kernel) rfl
theorem mw_814 : Cond.code yX10_stop cX10_stop 5 (some .int) ∈ gt := gtm3 214 (by decide +kernel) rfl
theorem mw_880 : Cond.methodLink "FerryLandLaw" 50 yX10_state ∈ gt := gtm4 40 (by decide +kernel) rfl
theorem mw_881 : Cond.instanceMethod yX10_state ∈ gt := gtm4 41 (by decide +kernel) rfl
theorem mw_882 : Cond.selects RX10 yX10_state yX10_state ∈ gt := gtm4 42 (by decide +kernel) rfl
theorem mw_883 : Cond.code yX10_state cX10_state 7 (some .int) ∈ gt := gtm4 43 (by decide +kernel) rfl
theorem mw_899 : Cond.methodLink "FerryLandLaw" 55 yX10_errand ∈ gt := gtm4 59 (by decide +kernel) rfl
theorem mw_900 : Cond.instanceMethod yX10_errand ∈ gt := gtm4 60 (by decide +kernel) rfl
theorem mw_901 : Cond.selects RX10 yX10_errand yX10_errand ∈ gt := gtm4 61 (by decide +kernel) rfl
theorem mw_902 : Cond.code yX10_errand cX10_errand 6 (some .int) ∈ gt := gtm4 62 (by decide +kernel) rfl
theorem mw_939 : Cond.methodLink "FerryLandLaw" 59 yX10_free ∈ gt := gtm4 99 (by decide +kernel) rfl
theorem mw_940 : Cond.instanceMethod yX10_free ∈ gt := gtm4 100 (by decide +kernel) rfl
theorem mw_941 : Cond.selects RX10 yX10_free yX10_free ∈ gt := gtm4 101 (by decide +kernel) rfl
theorem mw_942 : Cond.code yX10_free cX10_free 6 (some .int) ∈ gt := gtm4 102 (by decide +kernel) rfl
theorem mw_943 : Cond.methodLink "FerryLandLaw" 63 yX10_relay ∈ gt := gtm4 103 (by decide +kernel) rfl
theorem mw_944 : Cond.instanceMethod yX10_relay ∈ gt := gtm4 104 (by decide +kernel) rfl
theorem mw_945 : Cond.selects RX10 yX10_relay yX10_relay ∈ gt := gtm4 105 (by decide +kernel) rfl
theorem mw_946 : Cond.code yX10_relay cX10_relay 6 (some .int) ∈ gt := gtm4 106 (by decide +kernel) rfl
theorem mw_973 : Cond.methodLink "FerryLandLaw" 67 yX10_strait ∈ gt := gtm4 133 (by decide +kernel) rfl
theorem mw_974 : Cond.instanceMethod yX10_strait ∈ gt := gtm4 134 (by decide +kernel) rfl
theorem mw_975 : Cond.selects RX10 yX10_strait yX10_strait ∈ gt := gtm4 135 (by decide +kernel) rfl
theorem mw_976 : Cond.code yX10_strait cX10_strait 8 (some .int) ∈ gt := gtm4 136 (by decide +kernel) rfl
theorem mw_983 : Cond.methodLink "FerryLandLaw" 71 yX10_drought ∈ gt := gtm4 143 (by decide +kernel) rfl
theorem mw_984 : Cond.instanceMethod yX10_drought ∈ gt := gtm4 144 (by decide +kernel) rfl
theorem mw_985 : Cond.selects RX10 yX10_drought yX10_drought ∈ gt := gtm4 145 (by decide +kernel) rfl
theorem mw_986 : Cond.code yX10_drought cX10_drought 9 (some .int) ∈ gt := gtm4 146 (by decide +kernel) rfl
theorem mw_1015 : Cond.methodLink "FerryLandLaw" 75 yX10_watch ∈ gt := gtm4 175 (by decide +kernel) rfl
theorem mw_1016 : Cond.instanceMethod yX10_watch ∈ gt := gtm4 176 (by decide +kernel) rfl
theorem mw_1017 : Cond.selects RX10 yX10_watch yX10_watch ∈ gt := gtm4 177 (by decide +kernel) rfl
theorem mw_1018 : Cond.code yX10_watch cX10_watch 5 (some .int) ∈ gt := gtm4 178 (by decide +kernel) rfl
theorem mw_1051 : Cond.methodLink "FerryLandLaw" 79 yX10_moored ∈ gt := gtm4 211 (by decide +kernel) rfl
theorem mw_1052 : Cond.instanceMethod yX10_moored ∈ gt := gtm4 212 (by decide +kernel) rfl
theorem mw_1053 : Cond.selects RX10 yX10_moored yX10_moored ∈ gt := gtm4 213 (by decide +kernel) rfl
theorem mw_1054 : Cond.code yX10_moored cX10_moored 5 (some .int) ∈ gt := gtm4 214 (by decide +kernel) rfl
theorem mw_1078 : Cond.methodLink "FerryLandLaw" 84 yX10_route ∈ gt := gtm4 238 (by decide +kernel) rfl
theorem mw_1079 : Cond.instanceMethod yX10_route ∈ gt := gtm4 239 (by decide +kernel) rfl
theorem mw_1080 : Cond.selects RX10 yX10_route yX10_route ∈ gt := gtm5 0 (by decide +kernel) rfl
theorem mw_1081 : Cond.code yX10_route cX10_route 5 (some .int) ∈ gt := gtm5 1 (by decide +kernel) rfl
theorem mw_1086 : Cond.methodLink "FerryLandLaw" 88 yX10_at ∈ gt := gtm5 6 (by decide +kernel) rfl
theorem mw_1087 : Cond.instanceMethod yX10_at ∈ gt := gtm5 7 (by decide +kernel) rfl
theorem mw_1088 : Cond.selects RX10 yX10_at yX10_at ∈ gt := gtm5 8 (by decide +kernel) rfl
theorem mw_1089 : Cond.code yX10_at cX10_at 6 (some .int) ∈ gt := gtm5 9 (by decide +kernel) rfl
theorem mw_1113 : Cond.methodLink "FerryLandLaw" 92 yX10_meet ∈ gt := gtm5 33 (by decide +kernel) rfl
theorem mw_1114 : Cond.instanceMethod yX10_meet ∈ gt := gtm5 34 (by decide +kernel) rfl
theorem mw_1115 : Cond.selects RX10 yX10_meet yX10_meet ∈ gt := gtm5 35 (by decide +kernel) rfl
theorem mw_1116 : Cond.code yX10_meet cX10_meet 9 (some .int) ∈ gt := gtm5 36 (by decide +kernel) rfl
theorem mw_1136 : Cond.methodLink "FerryLandLaw" 96 yX10_soaked ∈ gt := gtm5 56 (by decide +kernel) rfl
theorem mw_1137 : Cond.instanceMethod yX10_soaked ∈ gt := gtm5 57 (by decide +kernel) rfl
theorem mw_1138 : Cond.selects RX10 yX10_soaked yX10_soaked ∈ gt := gtm5 58 (by decide +kernel) rfl
theorem mw_1139 : Cond.code yX10_soaked cX10_soaked 7 (some .int) ∈ gt := gtm5 59 (by decide +kernel) rfl
theorem mw_1147 : Cond.methodLink "FerryLandLaw" 101 yX10_sight ∈ gt := gtm5 67 (by decide +kernel) rfl
theorem mw_1148 : Cond.instanceMethod yX10_sight ∈ gt := gtm5 68 (by decide +kernel) rfl
theorem mw_1149 : Cond.selects RX10 yX10_sight yX10_sight ∈ gt := gtm5 69 (by decide +kernel) rfl
theorem mw_1150 : Cond.code yX10_sight cX10_sight 5 (some .int) ∈ gt := gtm5 70 (by decide +kernel) rfl
theorem mw_1151 : Cond.methodLink "FerryLandLaw" 105 yX10_walks ∈ gt := gtm5 71 (by decide +kernel) rfl
theorem mw_1152 : Cond.instanceMethod yX10_walks ∈ gt := gtm5 72 (by decide +kernel) rfl
theorem mw_1153 : Cond.selects RX10 yX10_walks yX10_walks ∈ gt := gtm5 73 (by decide +kernel) rfl
theorem mw_1154 : Cond.code yX10_walks cX10_walks 7 (some .long) ∈ gt := gtm5 74 (by decide +kernel) rfl
theorem mw_1205 : Cond.methodLink "FerryLandLaw" 110 yX10_sure ∈ gt := gtm5 125 (by decide +kernel) rfl
theorem mw_1206 : Cond.instanceMethod yX10_sure ∈ gt := gtm5 126 (by decide +kernel) rfl
theorem mw_1207 : Cond.selects RX10 yX10_sure yX10_sure ∈ gt := gtm5 127 (by decide +kernel) rfl
theorem mw_1208 : Cond.code yX10_sure cX10_sure 7 (some .int) ∈ gt := gtm5 128 (by decide +kernel) rfl
theorem mw_1223 : Cond.methodLink "FerryLandLaw" 114 yX10_drawn ∈ gt := gtm5 143 (by decide +kernel) rfl
theorem mw_1224 : Cond.instanceMethod yX10_drawn ∈ gt := gtm5 144 (by decide +kernel) rfl
theorem mw_1225 : Cond.selects RX10 yX10_drawn yX10_drawn ∈ gt := gtm5 145 (by decide +kernel) rfl
theorem mw_1226 : Cond.code yX10_drawn cX10_drawn 6 (some .int) ∈ gt := gtm5 146 (by decide +kernel) rfl
theorem mw_1236 : Cond.methodLink "FerryLandLaw" 118 yX10_portage ∈ gt := gtm5 156 (by decide +kernel) rfl
theorem mw_1237 : Cond.instanceMethod yX10_portage ∈ gt := gtm5 157 (by decide +kernel) rfl
theorem mw_1238 : Cond.selects RX10 yX10_portage yX10_portage ∈ gt := gtm5 158 (by decide +kernel) rfl
theorem mw_1239 : Cond.code yX10_portage cX10_portage 6 (some .int) ∈ gt := gtm5 159 (by decide +kernel) rfl
theorem mw_1251 : Cond.methodLink "FerryLandLaw" 122 yX10_dig ∈ gt := gtm5 171 (by decide +kernel) rfl
theorem mw_1252 : Cond.instanceMethod yX10_dig ∈ gt := gtm5 172 (by decide +kernel) rfl
theorem mw_1253 : Cond.selects RX10 yX10_dig yX10_dig ∈ gt := gtm5 173 (by decide +kernel) rfl
theorem mw_1254 : Cond.code yX10_dig cX10_dig 4 (some .int) ∈ gt := gtm5 174 (by decide +kernel) rfl
theorem mw_1260 : Cond.methodLink "FerryLandLaw" 126 yX10_dam ∈ gt := gtm5 180 (by decide +kernel) rfl
theorem mw_1261 : Cond.instanceMethod yX10_dam ∈ gt := gtm5 181 (by decide +kernel) rfl
theorem mw_1262 : Cond.selects RX10 yX10_dam yX10_dam ∈ gt := gtm5 182 (by decide +kernel) rfl
theorem mw_1263 : Cond.code yX10_dam cX10_dam 4 (some .int) ∈ gt := gtm5 183 (by decide +kernel) rfl
theorem mw_1264 : Cond.methodLink "FerryLandLaw" 130 yX10_inland ∈ gt := gtm5 184 (by decide +kernel) rfl
theorem mw_1265 : Cond.instanceMethod yX10_inland ∈ gt := gtm5 185 (by decide +kernel) rfl
theorem mw_1266 : Cond.selects RX10 yX10_inland yX10_inland ∈ gt := gtm5 186 (by decide +kernel) rfl
theorem mw_1267 : Cond.code yX10_inland cX10_inland 3 (some .int) ∈ gt := gtm5 187 (by decide +kernel) rfl
theorem mw_1272 : Cond.methodLink "FerryLandLaw" 134 yX10_count ∈ gt := gtm5 192 (by decide +kernel) rfl
theorem mw_1273 : Cond.instanceMethod yX10_count ∈ gt := gtm5 193 (by decide +kernel) rfl
theorem mw_1274 : Cond.selects RX10 yX10_count yX10_count ∈ gt := gtm5 194 (by decide +kernel) rfl
theorem mw_1275 : Cond.code yX10_count cX10_count 2 (some .int) ∈ gt := gtm5 195 (by decide +kernel) rfl
theorem mw_1276 : Cond.methodLink "FerryLandLaw" 138 yX10_image ∈ gt := gtm5 196 (by decide +kernel) rfl
theorem mw_1277 : Cond.instanceMethod yX10_image ∈ gt := gtm5 197 (by decide +kernel) rfl
theorem mw_1278 : Cond.selects RX10 yX10_image yX10_image ∈ gt := gtm5 198 (by decide +kernel) rfl
theorem mw_1279 : Cond.code yX10_image cX10_image 2 (some .boolean) ∈ gt := gtm5 199 (by decide +kernel) rfl
theorem mw_1286 : Cond.methodLink "FerryLandLaw" 143 yX10_again ∈ gt := gtm5 206 (by decide +kernel) rfl
theorem mw_1287 : Cond.instanceMethod yX10_again ∈ gt := gtm5 207 (by decide +kernel) rfl
theorem mw_1288 : Cond.selects RX10 yX10_again yX10_again ∈ gt := gtm5 208 (by decide +kernel) rfl
theorem mw_1289 : Cond.code yX10_again cX10_again 2 (some .boolean) ∈ gt := gtm5 209 (by decide +kernel) rfl
theorem mw_1290 : Cond.classLink "FerryLandLaw" 10 "FerryLandModel" ∈ gt := gtm5 210 (by decide +kernel) rfl
theorem mw_1291 : Cond.instantiable RX11 61 ∈ gt := gtm5 211 (by decide +kernel) rfl
theorem mw_1292 : Cond.methodLink "FerryLandLaw" 12 yX11_init ∈ gt := gtm5 212 (by decide +kernel) rfl
theorem mw_1293 : Cond.instanceMethod yX11_init ∈ gt := gtm5 213 (by decide +kernel) rfl
theorem mw_1294 : Cond.code yX11_init cX11_init 1 none ∈ gt := gtm5 214 (by decide +kernel) rfl
theorem mw_1482 : Cond.methodLink "FerryLandLaw" 17 yX11_feed ∈ gt := gtm6 162 (by decide +kernel) rfl
theorem mw_1483 : Cond.instanceMethod yX11_feed ∈ gt := gtm6 163 (by decide +kernel) rfl
theorem mw_1484 : Cond.selects RX11 yX11_feed yX11_feed ∈ gt := gtm6 164 (by decide +kernel) rfl
theorem mw_1485 : Cond.code yX11_feed cX11_feed 6 (some .int) ∈ gt := gtm6 165 (by decide +kernel) rfl
theorem mw_1490 : Cond.methodLink "FerryLandLaw" 22 yX11_end ∈ gt := gtm6 170 (by decide +kernel) rfl
theorem mw_1491 : Cond.instanceMethod yX11_end ∈ gt := gtm6 171 (by decide +kernel) rfl
theorem mw_1492 : Cond.selects RX11 yX11_end yX11_end ∈ gt := gtm6 172 (by decide +kernel) rfl
theorem mw_1493 : Cond.code yX11_end cX11_end 2 (some .int) ∈ gt := gtm6 173 (by decide +kernel) rfl
theorem mw_1497 : Cond.methodLink "FerryLandLaw" 27 yX11_text ∈ gt := gtm6 177 (by decide +kernel) rfl
theorem mw_1498 : Cond.instanceMethod yX11_text ∈ gt := gtm6 178 (by decide +kernel) rfl
theorem mw_1499 : Cond.selects RX11 yX11_text yX11_text ∈ gt := gtm6 179 (by decide +kernel) rfl
theorem mw_1500 : Cond.code yX11_text cX11_text 4 (some .int) ∈ gt := gtm6 180 (by decide +kernel) rfl
theorem mw_1622 : Cond.methodLink "FerryLandLaw" 31 yX11_fault ∈ gt := gtm7 62 (by decide +kernel) rfl
theorem mw_1623 : Cond.instanceMethod yX11_fault ∈ gt := gtm7 63 (by decide +kernel) rfl
theorem mw_1624 : Cond.selects RX11 yX11_fault yX11_fault ∈ gt := gtm7 64 (by decide +kernel) rfl
theorem mw_1625 : Cond.code yX11_fault cX11_fault 2 (some .int) ∈ gt := gtm7 65 (by decide +kernel) rfl
theorem mw_1626 : Cond.methodLink "FerryLandLaw" 35 yX11_land ∈ gt := gtm7 66 (by decide +kernel) rfl
theorem mw_1627 : Cond.instanceMethod yX11_land ∈ gt := gtm7 67 (by decide +kernel) rfl
theorem mw_1628 : Cond.selects RX11 yX11_land yX11_land ∈ gt := gtm7 68 (by decide +kernel) rfl
theorem mw_1629 : Cond.code yX11_land cX11_land 4 (some .int) ∈ gt := gtm7 69 (by decide +kernel) rfl
theorem mw_1642 : Cond.methodLink "FerryLandLaw" 40 yX11_cell ∈ gt := gtm7 82 (by decide +kernel) rfl
theorem mw_1643 : Cond.instanceMethod yX11_cell ∈ gt := gtm7 83 (by decide +kernel) rfl
theorem mw_1644 : Cond.selects RX11 yX11_cell yX11_cell ∈ gt := gtm7 84 (by decide +kernel) rfl
theorem mw_1645 : Cond.code yX11_cell cX11_cell 4 (some .int) ∈ gt := gtm7 85 (by decide +kernel) rfl
theorem mw_1650 : Cond.methodLink "FerryLandLaw" 45 yX11_deed ∈ gt := gtm7 90 (by decide +kernel) rfl
theorem mw_1651 : Cond.instanceMethod yX11_deed ∈ gt := gtm7 91 (by decide +kernel) rfl
theorem mw_1652 : Cond.selects RX11 yX11_deed yX11_deed ∈ gt := gtm7 92 (by decide +kernel) rfl
theorem mw_1653 : Cond.code yX11_deed cX11_deed 4 (some .int) ∈ gt := gtm7 93 (by decide +kernel) rfl
theorem mw_1666 : Cond.methodLink "FerryLandLaw" 49 yX11_stop ∈ gt := gtm7 106 (by decide +kernel) rfl
theorem mw_1667 : Cond.instanceMethod yX11_stop ∈ gt := gtm7 107 (by decide +kernel) rfl
theorem mw_1668 : Cond.selects RX11 yX11_stop yX11_stop ∈ gt := gtm7 108 (by decide +kernel) rfl
theorem mw_1669 : Cond.code yX11_stop cX11_stop 3 (some .int) ∈ gt := gtm7 109 (by decide +kernel) rfl
theorem mw_1718 : Cond.methodLink "FerryLandLaw" 54 yX11_state ∈ gt := gtm7 158 (by decide +kernel) rfl
theorem mw_1719 : Cond.instanceMethod yX11_state ∈ gt := gtm7 159 (by decide +kernel) rfl
theorem mw_1720 : Cond.selects RX11 yX11_state yX11_state ∈ gt := gtm7 160 (by decide +kernel) rfl
theorem mw_1721 : Cond.code yX11_state cX11_state 5 (some .int) ∈ gt := gtm7 161 (by decide +kernel) rfl
theorem mw_1730 : Cond.methodLink "FerryLandLaw" 58 yX11_errand ∈ gt := gtm7 170 (by decide +kernel) rfl
theorem mw_1731 : Cond.instanceMethod yX11_errand ∈ gt := gtm7 171 (by decide +kernel) rfl
theorem mw_1732 : Cond.selects RX11 yX11_errand yX11_errand ∈ gt := gtm7 172 (by decide +kernel) rfl
theorem mw_1733 : Cond.code yX11_errand cX11_errand 5 (some .int) ∈ gt := gtm7 173 (by decide +kernel) rfl
theorem mw_1752 : Cond.methodLink "FerryLandLaw" 62 yX11_free ∈ gt := gtm7 192 (by decide +kernel) rfl
theorem mw_1753 : Cond.instanceMethod yX11_free ∈ gt := gtm7 193 (by decide +kernel) rfl
theorem mw_1754 : Cond.selects RX11 yX11_free yX11_free ∈ gt := gtm7 194 (by decide +kernel) rfl
theorem mw_1755 : Cond.code yX11_free cX11_free 7 (some .int) ∈ gt := gtm7 195 (by decide +kernel) rfl
theorem mw_1756 : Cond.methodLink "FerryLandLaw" 66 yX11_relay ∈ gt := gtm7 196 (by decide +kernel) rfl
theorem mw_1757 : Cond.instanceMethod yX11_relay ∈ gt := gtm7 197 (by decide +kernel) rfl
theorem mw_1758 : Cond.selects RX11 yX11_relay yX11_relay ∈ gt := gtm7 198 (by decide +kernel) rfl
theorem mw_1759 : Cond.code yX11_relay cX11_relay 5 (some .int) ∈ gt := gtm7 199 (by decide +kernel) rfl
theorem mw_1776 : Cond.methodLink "FerryLandLaw" 70 yX11_strait ∈ gt := gtm7 216 (by decide +kernel) rfl
theorem mw_1777 : Cond.instanceMethod yX11_strait ∈ gt := gtm7 217 (by decide +kernel) rfl
theorem mw_1778 : Cond.selects RX11 yX11_strait yX11_strait ∈ gt := gtm7 218 (by decide +kernel) rfl
theorem mw_1779 : Cond.code yX11_strait cX11_strait 4 (some .int) ∈ gt := gtm7 219 (by decide +kernel) rfl
theorem mw_1784 : Cond.methodLink "FerryLandLaw" 74 yX11_drought ∈ gt := gtm7 224 (by decide +kernel) rfl
theorem mw_1785 : Cond.instanceMethod yX11_drought ∈ gt := gtm7 225 (by decide +kernel) rfl
theorem mw_1786 : Cond.selects RX11 yX11_drought yX11_drought ∈ gt := gtm7 226 (by decide +kernel) rfl
theorem mw_1787 : Cond.code yX11_drought cX11_drought 7 (some .int) ∈ gt := gtm7 227 (by decide +kernel) rfl
theorem mw_1808 : Cond.methodLink "FerryLandLaw" 78 yX11_watch ∈ gt := gtm8 8 (by decide +kernel) rfl
theorem mw_1809 : Cond.instanceMethod yX11_watch ∈ gt := gtm8 9 (by decide +kernel) rfl
theorem mw_1810 : Cond.selects RX11 yX11_watch yX11_watch ∈ gt := gtm8 10 (by decide +kernel) rfl
theorem mw_1811 : Cond.code yX11_watch cX11_watch 4 (some .int) ∈ gt := gtm8 11 (by decide +kernel) rfl
theorem mw_1827 : Cond.methodLink "FerryLandLaw" 83 yX11_moored ∈ gt := gtm8 27 (by decide +kernel) rfl
theorem mw_1828 : Cond.instanceMethod yX11_moored ∈ gt := gtm8 28 (by decide +kernel) rfl
theorem mw_1829 : Cond.selects RX11 yX11_moored yX11_moored ∈ gt := gtm8 29 (by decide +kernel) rfl
theorem mw_1830 : Cond.code yX11_moored cX11_moored 10 (some .int) ∈ gt := gtm8 30 (by decide +kernel) rfl
theorem mw_1842 : Cond.methodLink "FerryLandLaw" 87 yX11_route ∈ gt := gtm8 42 (by decide +kernel) rfl
theorem mw_1843 : Cond.instanceMethod yX11_route ∈ gt := gtm8 43 (by decide +kernel) rfl
theorem mw_1844 : Cond.selects RX11 yX11_route yX11_route ∈ gt := gtm8 44 (by decide +kernel) rfl
theorem mw_1845 : Cond.code yX11_route cX11_route 4 (some .int) ∈ gt := gtm8 45 (by decide +kernel) rfl
theorem mw_1854 : Cond.methodLink "FerryLandLaw" 91 yX11_at ∈ gt := gtm8 54 (by decide +kernel) rfl
theorem mw_1855 : Cond.instanceMethod yX11_at ∈ gt := gtm8 55 (by decide +kernel) rfl
theorem mw_1856 : Cond.selects RX11 yX11_at yX11_at ∈ gt := gtm8 56 (by decide +kernel) rfl
theorem mw_1857 : Cond.code yX11_at cX11_at 4 (some .int) ∈ gt := gtm8 57 (by decide +kernel) rfl
theorem mw_1862 : Cond.methodLink "FerryLandLaw" 95 yX11_meet ∈ gt := gtm8 62 (by decide +kernel) rfl
theorem mw_1863 : Cond.instanceMethod yX11_meet ∈ gt := gtm8 63 (by decide +kernel) rfl
theorem mw_1864 : Cond.selects RX11 yX11_meet yX11_meet ∈ gt := gtm8 64 (by decide +kernel) rfl
theorem mw_1865 : Cond.code yX11_meet cX11_meet 13 (some .int) ∈ gt := gtm8 65 (by decide +kernel) rfl
theorem mw_1870 : Cond.methodLink "FerryLandLaw" 100 yX11_soaked ∈ gt := gtm8 70 (by decide +kernel) rfl
theorem mw_1871 : Cond.instanceMethod yX11_soaked ∈ gt := gtm8 71 (by decide +kernel) rfl
theorem mw_1872 : Cond.selects RX11 yX11_soaked yX11_soaked ∈ gt := gtm8 72 (by decide +kernel) rfl
theorem mw_1873 : Cond.code yX11_soaked cX11_soaked 10 (some .int) ∈ gt := gtm8 73 (by decide +kernel) rfl
theorem mw_1874 : Cond.methodLink "FerryLandLaw" 104 yX11_sight ∈ gt := gtm8 74 (by decide +kernel) rfl
theorem mw_1875 : Cond.instanceMethod yX11_sight ∈ gt := gtm8 75 (by decide +kernel) rfl
theorem mw_1876 : Cond.selects RX11 yX11_sight yX11_sight ∈ gt := gtm8 76 (by decide +kernel) rfl
theorem mw_1877 : Cond.code yX11_sight cX11_sight 4 (some .int) ∈ gt := gtm8 77 (by decide +kernel) rfl
theorem mw_1886 : Cond.methodLink "FerryLandLaw" 109 yX11_walks ∈ gt := gtm8 86 (by decide +kernel) rfl
theorem mw_1887 : Cond.instanceMethod yX11_walks ∈ gt := gtm8 87 (by decide +kernel) rfl
theorem mw_1888 : Cond.selects RX11 yX11_walks yX11_walks ∈ gt := gtm8 88 (by decide +kernel) rfl
theorem mw_1889 : Cond.code yX11_walks cX11_walks 5 (some .long) ∈ gt := gtm8 89 (by decide +kernel) rfl
theorem mw_1922 : Cond.methodLink "FerryLandLaw" 113 yX11_sure ∈ gt := gtm8 122 (by decide +kernel) rfl
theorem mw_1923 : Cond.instanceMethod yX11_sure ∈ gt := gtm8 123 (by decide +kernel) rfl
theorem mw_1924 : Cond.selects RX11 yX11_sure yX11_sure ∈ gt := gtm8 124 (by decide +kernel) rfl
theorem mw_1925 : Cond.code yX11_sure cX11_sure 6 (some .int) ∈ gt := gtm8 125 (by decide +kernel) rfl
theorem mw_1930 : Cond.methodLink "FerryLandLaw" 117 yX11_drawn ∈ gt := gtm8 130 (by decide +kernel) rfl
theorem mw_1931 : Cond.instanceMethod yX11_drawn ∈ gt := gtm8 131 (by decide +kernel) rfl
theorem mw_1932 : Cond.selects RX11 yX11_drawn yX11_drawn ∈ gt := gtm8 132 (by decide +kernel) rfl
theorem mw_1933 : Cond.code yX11_drawn cX11_drawn 6 (some .int) ∈ gt := gtm8 133 (by decide +kernel) rfl
theorem mw_1943 : Cond.methodLink "FerryLandLaw" 121 yX11_portage ∈ gt := gtm8 143 (by decide +kernel) rfl
theorem mw_1944 : Cond.instanceMethod yX11_portage ∈ gt := gtm8 144 (by decide +kernel) rfl
theorem mw_1945 : Cond.selects RX11 yX11_portage yX11_portage ∈ gt := gtm8 145 (by decide +kernel) rfl
theorem mw_1946 : Cond.code yX11_portage cX11_portage 10 (some .int) ∈ gt := gtm8 146 (by decide +kernel) rfl
theorem mw_1947 : Cond.methodLink "FerryLandLaw" 125 yX11_dig ∈ gt := gtm8 147 (by decide +kernel) rfl
theorem mw_1948 : Cond.instanceMethod yX11_dig ∈ gt := gtm8 148 (by decide +kernel) rfl
theorem mw_1949 : Cond.selects RX11 yX11_dig yX11_dig ∈ gt := gtm8 149 (by decide +kernel) rfl
theorem mw_1950 : Cond.code yX11_dig cX11_dig 7 (some .int) ∈ gt := gtm8 150 (by decide +kernel) rfl
theorem mw_1951 : Cond.methodLink "FerryLandLaw" 129 yX11_dam ∈ gt := gtm8 151 (by decide +kernel) rfl
theorem mw_1952 : Cond.instanceMethod yX11_dam ∈ gt := gtm8 152 (by decide +kernel) rfl
theorem mw_1953 : Cond.selects RX11 yX11_dam yX11_dam ∈ gt := gtm8 153 (by decide +kernel) rfl
theorem mw_1954 : Cond.code yX11_dam cX11_dam 7 (some .int) ∈ gt := gtm8 154 (by decide +kernel) rfl
theorem mw_1955 : Cond.methodLink "FerryLandLaw" 133 yX11_inland ∈ gt := gtm8 155 (by decide +kernel) rfl
theorem mw_1956 : Cond.instanceMethod yX11_inland ∈ gt := gtm8 156 (by decide +kernel) rfl
theorem mw_1957 : Cond.selects RX11 yX11_inland yX11_inland ∈ gt := gtm8 157 (by decide +kernel) rfl
theorem mw_1958 : Cond.code yX11_inland cX11_inland 5 (some .int) ∈ gt := gtm8 158 (by decide +kernel) rfl
theorem mw_1959 : Cond.methodLink "FerryLandLaw" 137 yX11_count ∈ gt := gtm8 159 (by decide +kernel) rfl
theorem mw_1960 : Cond.instanceMethod yX11_count ∈ gt := gtm8 160 (by decide +kernel) rfl
theorem mw_1961 : Cond.selects RX11 yX11_count yX11_count ∈ gt := gtm8 161 (by decide +kernel) rfl
theorem mw_1962 : Cond.code yX11_count cX11_count 2 (some .int) ∈ gt := gtm8 162 (by decide +kernel) rfl
theorem mw_1963 : Cond.methodLink "FerryLandLaw" 142 yX11_image ∈ gt := gtm8 163 (by decide +kernel) rfl
theorem mw_1964 : Cond.instanceMethod yX11_image ∈ gt := gtm8 164 (by decide +kernel) rfl
theorem mw_1965 : Cond.selects RX11 yX11_image yX11_image ∈ gt := gtm8 165 (by decide +kernel) rfl
theorem mw_1966 : Cond.code yX11_image cX11_image 2 (some .boolean) ∈ gt := gtm8 166 (by decide +kernel) rfl
theorem mw_1974 : Cond.methodLink "FerryLandLaw" 146 yX11_again ∈ gt := gtm8 174 (by decide +kernel) rfl
theorem mw_1975 : Cond.instanceMethod yX11_again ∈ gt := gtm8 175 (by decide +kernel) rfl
theorem mw_1976 : Cond.selects RX11 yX11_again yX11_again ∈ gt := gtm8 176 (by decide +kernel) rfl
theorem mw_1977 : Cond.code yX11_again cX11_again 2 (some .boolean) ∈ gt := gtm8 177 (by decide +kernel) rfl
theorem lk_law_9 : LKI "FerryLandLaw" 9 k_X10_init 0 := ⟨mw_143, mw_144, rfl, rfl, mw_121, mw_145, by decide +kernel, by decide +kernel, by decide +kernel⟩
theorem lk_law_12 : LKI "FerryLandLaw" 12 k_X11_init 0 := ⟨mw_1292, mw_1293, rfl, rfl, mw_133, mw_1294, by decide +kernel, by decide +kernel, by decide +kernel⟩
theorem lk_law_13 : LKV "FerryLandLaw" 13 k_X10_feed 5 10 := ⟨mw_553, mw_554, mw_555, by decide, ⟨_, rfl, rfl⟩, mw_121, mw_556, by decide +kernel, by decide +kernel, by decide +kernel⟩
theorem lk_law_17 : LKV "FerryLandLaw" 17 k_X11_feed 5 11 := ⟨mw_1482, mw_1483, mw_1484, by decide, ⟨_, rfl, rfl⟩, mw_133, mw_1485, by decide +kernel, by decide +kernel, by decide +kernel⟩
theorem lk_law_18 : LKV "FerryLandLaw" 18 k_X10_end 1 10 := ⟨mw_561, mw_562, mw_563, by decide, ⟨_, rfl, rfl⟩, mw_121, mw_564, by decide +kernel, by decide +kernel, by decide +kernel⟩
theorem lk_law_22 : LKV "FerryLandLaw" 22 k_X11_end 1 11 := ⟨mw_1490, mw_1491, mw_1492, by decide, ⟨_, rfl, rfl⟩, mw_133, mw_1493, by decide +kernel, by decide +kernel, by decide +kernel⟩
theorem lk_law_23 : LKV "FerryLandLaw" 23 k_X10_text 2 10 := ⟨mw_565, mw_566, mw_567, by decide, ⟨_, rfl, rfl⟩, mw_121, mw_568, by decide +kernel, by decide +kernel, by decide +kernel⟩
theorem lk_law_27 : LKV "FerryLandLaw" 27 k_X11_text 2 11 := ⟨mw_1497, mw_1498, mw_1499, by decide, ⟨_, rfl, rfl⟩, mw_133, mw_1500, by decide +kernel, by decide +kernel, by decide +kernel⟩
theorem lk_law_28 : LKV "FerryLandLaw" 28 k_X10_fault 1 10 := ⟨mw_765, mw_766, mw_767, by decide, ⟨_, rfl, rfl⟩, mw_121, mw_768, by decide +kernel, by decide +kernel, by decide +kernel⟩
theorem lk_law_31 : LKV "FerryLandLaw" 31 k_X11_fault 1 11 := ⟨mw_1622, mw_1623, mw_1624, by decide, ⟨_, rfl, rfl⟩, mw_133, mw_1625, by decide +kernel, by decide +kernel, by decide +kernel⟩
theorem lk_law_32 : LKV "FerryLandLaw" 32 k_X10_land 2 10 := ⟨mw_769, mw_770, mw_771, by decide, ⟨_, rfl, rfl⟩, mw_121, mw_772, by decide +kernel, by decide +kernel, by decide +kernel⟩
theorem lk_law_35 : LKV "FerryLandLaw" 35 k_X11_land 2 11 := ⟨mw_1626, mw_1627, mw_1628, by decide, ⟨_, rfl, rfl⟩, mw_133, mw_1629, by decide +kernel, by decide +kernel, by decide +kernel⟩
theorem lk_law_36 : LKV "FerryLandLaw" 36 k_X10_cell 3 10 := ⟨mw_781, mw_782, mw_783, by decide, ⟨_, rfl, rfl⟩, mw_121, mw_784, by decide +kernel, by decide +kernel, by decide +kernel⟩
theorem lk_law_40 : LKV "FerryLandLaw" 40 k_X11_cell 3 11 := ⟨mw_1642, mw_1643, mw_1644, by decide, ⟨_, rfl, rfl⟩, mw_133, mw_1645, by decide +kernel, by decide +kernel, by decide +kernel⟩
theorem lk_law_41 : LKV "FerryLandLaw" 41 k_X10_deed 3 10 := ⟨mw_794, mw_795, mw_796, by decide, ⟨_, rfl, rfl⟩, mw_121, mw_797, by decide +kernel, by decide +kernel, by decide +kernel⟩
theorem lk_law_45 : LKV "FerryLandLaw" 45 k_X11_deed 3 11 := ⟨mw_1650, mw_1651, mw_1652, by decide, ⟨_, rfl, rfl⟩, mw_133, mw_1653, by decide +kernel, by decide +kernel, by decide +kernel⟩
theorem lk_law_46 : LKV "FerryLandLaw" 46 k_X10_stop 2 10 := ⟨mw_811, mw_812, mw_813, by decide, ⟨_, rfl, rfl⟩, mw_121, mw_814, by decide +kernel, by decide +kernel, by decide +kernel⟩
theorem lk_law_49 : LKV "FerryLandLaw" 49 k_X11_stop 2 11 := ⟨mw_1666, mw_1667, mw_1668, by decide, ⟨_, rfl, rfl⟩, mw_133, mw_1669, by decide +kernel, by decide +kernel, by decide +kernel⟩
theorem lk_law_50 : LKV "FerryLandLaw" 50 k_X10_state 4 10 := ⟨mw_880, mw_881, mw_882, by decide, ⟨_, rfl, rfl⟩, mw_121, mw_883, by decide +kernel, by decide +kernel, by decide +kernel⟩
theorem lk_law_54 : LKV "FerryLandLaw" 54 k_X11_state 4 11 := ⟨mw_1718, mw_1719, mw_1720, by decide, ⟨_, rfl, rfl⟩, mw_133, mw_1721, by decide +kernel, by decide +kernel, by decide +kernel⟩
theorem lk_law_55 : LKV "FerryLandLaw" 55 k_X10_errand 4 10 := ⟨mw_899, mw_900, mw_901, by decide, ⟨_, rfl, rfl⟩, mw_121, mw_902, by decide +kernel, by decide +kernel, by decide +kernel⟩
theorem lk_law_58 : LKV "FerryLandLaw" 58 k_X11_errand 4 11 := ⟨mw_1730, mw_1731, mw_1732, by decide, ⟨_, rfl, rfl⟩, mw_133, mw_1733, by decide +kernel, by decide +kernel, by decide +kernel⟩
theorem lk_law_59 : LKV "FerryLandLaw" 59 k_X10_free 4 10 := ⟨mw_939, mw_940, mw_941, by decide, ⟨_, rfl, rfl⟩, mw_121, mw_942, by decide +kernel, by decide +kernel, by decide +kernel⟩
theorem lk_law_62 : LKV "FerryLandLaw" 62 k_X11_free 4 11 := ⟨mw_1752, mw_1753, mw_1754, by decide, ⟨_, rfl, rfl⟩, mw_133, mw_1755, by decide +kernel, by decide +kernel, by decide +kernel⟩
theorem lk_law_63 : LKV "FerryLandLaw" 63 k_X10_relay 4 10 := ⟨mw_943, mw_944, mw_945, by decide, ⟨_, rfl, rfl⟩, mw_121, mw_946, by decide +kernel, by decide +kernel, by decide +kernel⟩
theorem lk_law_66 : LKV "FerryLandLaw" 66 k_X11_relay 4 11 := ⟨mw_1756, mw_1757, mw_1758, by decide, ⟨_, rfl, rfl⟩, mw_133, mw_1759, by decide +kernel, by decide +kernel, by decide +kernel⟩
theorem lk_law_67 : LKV "FerryLandLaw" 67 k_X10_strait 3 10 := ⟨mw_973, mw_974, mw_975, by decide, ⟨_, rfl, rfl⟩, mw_121, mw_976, by decide +kernel, by decide +kernel, by decide +kernel⟩
theorem lk_law_70 : LKV "FerryLandLaw" 70 k_X11_strait 3 11 := ⟨mw_1776, mw_1777, mw_1778, by decide, ⟨_, rfl, rfl⟩, mw_133, mw_1779, by decide +kernel, by decide +kernel, by decide +kernel⟩
theorem lk_law_71 : LKV "FerryLandLaw" 71 k_X10_drought 3 10 := ⟨mw_983, mw_984, mw_985, by decide, ⟨_, rfl, rfl⟩, mw_121, mw_986, by decide +kernel, by decide +kernel, by decide +kernel⟩
theorem lk_law_74 : LKV "FerryLandLaw" 74 k_X11_drought 3 11 := ⟨mw_1784, mw_1785, mw_1786, by decide, ⟨_, rfl, rfl⟩, mw_133, mw_1787, by decide +kernel, by decide +kernel, by decide +kernel⟩
theorem lk_law_75 : LKV "FerryLandLaw" 75 k_X10_watch 3 10 := ⟨mw_1015, mw_1016, mw_1017, by decide, ⟨_, rfl, rfl⟩, mw_121, mw_1018, by decide +kernel, by decide +kernel, by decide +kernel⟩
theorem lk_law_78 : LKV "FerryLandLaw" 78 k_X11_watch 3 11 := ⟨mw_1808, mw_1809, mw_1810, by decide, ⟨_, rfl, rfl⟩, mw_133, mw_1811, by decide +kernel, by decide +kernel, by decide +kernel⟩
theorem lk_law_79 : LKV "FerryLandLaw" 79 k_X10_moored 2 10 := ⟨mw_1051, mw_1052, mw_1053, by decide, ⟨_, rfl, rfl⟩, mw_121, mw_1054, by decide +kernel, by decide +kernel, by decide +kernel⟩
theorem lk_law_83 : LKV "FerryLandLaw" 83 k_X11_moored 2 11 := ⟨mw_1827, mw_1828, mw_1829, by decide, ⟨_, rfl, rfl⟩, mw_133, mw_1830, by decide +kernel, by decide +kernel, by decide +kernel⟩
theorem lk_law_84 : LKV "FerryLandLaw" 84 k_X10_route 3 10 := ⟨mw_1078, mw_1079, mw_1080, by decide, ⟨_, rfl, rfl⟩, mw_121, mw_1081, by decide +kernel, by decide +kernel, by decide +kernel⟩
theorem lk_law_87 : LKV "FerryLandLaw" 87 k_X11_route 3 11 := ⟨mw_1842, mw_1843, mw_1844, by decide, ⟨_, rfl, rfl⟩, mw_133, mw_1845, by decide +kernel, by decide +kernel, by decide +kernel⟩
theorem lk_law_88 : LKV "FerryLandLaw" 88 k_X10_at 3 10 := ⟨mw_1086, mw_1087, mw_1088, by decide, ⟨_, rfl, rfl⟩, mw_121, mw_1089, by decide +kernel, by decide +kernel, by decide +kernel⟩
theorem lk_law_91 : LKV "FerryLandLaw" 91 k_X11_at 3 11 := ⟨mw_1854, mw_1855, mw_1856, by decide, ⟨_, rfl, rfl⟩, mw_133, mw_1857, by decide +kernel, by decide +kernel, by decide +kernel⟩
theorem lk_law_92 : LKV "FerryLandLaw" 92 k_X10_meet 5 10 := ⟨mw_1113, mw_1114, mw_1115, by decide, ⟨_, rfl, rfl⟩, mw_121, mw_1116, by decide +kernel, by decide +kernel, by decide +kernel⟩
theorem lk_law_95 : LKV "FerryLandLaw" 95 k_X11_meet 5 11 := ⟨mw_1862, mw_1863, mw_1864, by decide, ⟨_, rfl, rfl⟩, mw_133, mw_1865, by decide +kernel, by decide +kernel, by decide +kernel⟩
theorem lk_law_96 : LKV "FerryLandLaw" 96 k_X10_soaked 4 10 := ⟨mw_1136, mw_1137, mw_1138, by decide, ⟨_, rfl, rfl⟩, mw_121, mw_1139, by decide +kernel, by decide +kernel, by decide +kernel⟩
theorem lk_law_100 : LKV "FerryLandLaw" 100 k_X11_soaked 4 11 := ⟨mw_1870, mw_1871, mw_1872, by decide, ⟨_, rfl, rfl⟩, mw_133, mw_1873, by decide +kernel, by decide +kernel, by decide +kernel⟩
theorem lk_law_101 : LKV "FerryLandLaw" 101 k_X10_sight 3 10 := ⟨mw_1147, mw_1148, mw_1149, by decide, ⟨_, rfl, rfl⟩, mw_121, mw_1150, by decide +kernel, by decide +kernel, by decide +kernel⟩
theorem lk_law_104 : LKV "FerryLandLaw" 104 k_X11_sight 3 11 := ⟨mw_1874, mw_1875, mw_1876, by decide, ⟨_, rfl, rfl⟩, mw_133, mw_1877, by decide +kernel, by decide +kernel, by decide +kernel⟩
theorem lk_law_105 : LKV "FerryLandLaw" 105 k_X10_walks 4 10 := ⟨mw_1151, mw_1152, mw_1153, by decide, ⟨_, rfl, rfl⟩, mw_121, mw_1154, by decide +kernel, by decide +kernel, by decide +kernel⟩
theorem lk_law_109 : LKV "FerryLandLaw" 109 k_X11_walks 4 11 := ⟨mw_1886, mw_1887, mw_1888, by decide, ⟨_, rfl, rfl⟩, mw_133, mw_1889, by decide +kernel, by decide +kernel, by decide +kernel⟩
theorem lk_law_110 : LKV "FerryLandLaw" 110 k_X10_sure 4 10 := ⟨mw_1205, mw_1206, mw_1207, by decide, ⟨_, rfl, rfl⟩, mw_121, mw_1208, by decide +kernel, by decide +kernel, by decide +kernel⟩
theorem lk_law_113 : LKV "FerryLandLaw" 113 k_X11_sure 4 11 := ⟨mw_1922, mw_1923, mw_1924, by decide, ⟨_, rfl, rfl⟩, mw_133, mw_1925, by decide +kernel, by decide +kernel, by decide +kernel⟩
theorem lk_law_114 : LKV "FerryLandLaw" 114 k_X10_drawn 4 10 := ⟨mw_1223, mw_1224, mw_1225, by decide, ⟨_, rfl, rfl⟩, mw_121, mw_1226, by decide +kernel, by decide +kernel, by decide +kernel⟩
theorem lk_law_117 : LKV "FerryLandLaw" 117 k_X11_drawn 4 11 := ⟨mw_1930, mw_1931, mw_1932, by decide, ⟨_, rfl, rfl⟩, mw_133, mw_1933, by decide +kernel, by decide +kernel, by decide +kernel⟩
theorem lk_law_118 : LKV "FerryLandLaw" 118 k_X10_portage 4 10 := ⟨mw_1236, mw_1237, mw_1238, by decide, ⟨_, rfl, rfl⟩, mw_121, mw_1239, by decide +kernel, by decide +kernel, by decide +kernel⟩
theorem lk_law_121 : LKV "FerryLandLaw" 121 k_X11_portage 4 11 := ⟨mw_1943, mw_1944, mw_1945, by decide, ⟨_, rfl, rfl⟩, mw_133, mw_1946, by decide +kernel, by decide +kernel, by decide +kernel⟩
theorem lk_law_122 : LKV "FerryLandLaw" 122 k_X10_dig 2 10 := ⟨mw_1251, mw_1252, mw_1253, by decide, ⟨_, rfl, rfl⟩, mw_121, mw_1254, by decide +kernel, by decide +kernel, by decide +kernel⟩
theorem lk_law_125 : LKV "FerryLandLaw" 125 k_X11_dig 2 11 := ⟨mw_1947, mw_1948, mw_1949, by decide, ⟨_, rfl, rfl⟩, mw_133, mw_1950, by decide +kernel, by decide +kernel, by decide +kernel⟩
theorem lk_law_126 : LKV "FerryLandLaw" 126 k_X10_dam 2 10 := ⟨mw_1260, mw_1261, mw_1262, by decide, ⟨_, rfl, rfl⟩, mw_121, mw_1263, by decide +kernel, by decide +kernel, by decide +kernel⟩
theorem lk_law_129 : LKV "FerryLandLaw" 129 k_X11_dam 2 11 := ⟨mw_1951, mw_1952, mw_1953, by decide, ⟨_, rfl, rfl⟩, mw_133, mw_1954, by decide +kernel, by decide +kernel, by decide +kernel⟩
theorem lk_law_130 : LKV "FerryLandLaw" 130 k_X10_inland 1 10 := ⟨mw_1264, mw_1265, mw_1266, by decide, ⟨_, rfl, rfl⟩, mw_121, mw_1267, by decide +kernel, by decide +kernel, by decide +kernel⟩
theorem lk_law_133 : LKV "FerryLandLaw" 133 k_X11_inland 1 11 := ⟨mw_1955, mw_1956, mw_1957, by decide, ⟨_, rfl, rfl⟩, mw_133, mw_1958, by decide +kernel, by decide +kernel, by decide +kernel⟩
theorem lk_law_134 : LKV "FerryLandLaw" 134 k_X10_count 1 10 := ⟨mw_1272, mw_1273, mw_1274, by decide, ⟨_, rfl, rfl⟩, mw_121, mw_1275, by decide +kernel, by decide +kernel, by decide +kernel⟩
theorem lk_law_137 : LKV "FerryLandLaw" 137 k_X11_count 1 11 := ⟨mw_1959, mw_1960, mw_1961, by decide, ⟨_, rfl, rfl⟩, mw_133, mw_1962, by decide +kernel, by decide +kernel, by decide +kernel⟩
theorem lk_law_138 : LKV "FerryLandLaw" 138 k_X10_image 1 10 := ⟨mw_1276, mw_1277, mw_1278, by decide, ⟨_, rfl, rfl⟩, mw_121, mw_1279, by decide +kernel, by decide +kernel, by decide +kernel⟩
theorem lk_law_142 : LKV "FerryLandLaw" 142 k_X11_image 1 11 := ⟨mw_1963, mw_1964, mw_1965, by decide, ⟨_, rfl, rfl⟩, mw_133, mw_1966, by decide +kernel, by decide +kernel, by decide +kernel⟩
theorem lk_law_143 : LKV "FerryLandLaw" 143 k_X10_again 1 10 := ⟨mw_1286, mw_1287, mw_1288, by decide, ⟨_, rfl, rfl⟩, mw_121, mw_1289, by decide +kernel, by decide +kernel, by decide +kernel⟩
theorem lk_law_146 : LKV "FerryLandLaw" 146 k_X11_again 1 11 := ⟨mw_1974, mw_1975, mw_1976, by decide, ⟨_, rfl, rfl⟩, mw_133, mw_1977, by decide +kernel, by decide +kernel, by decide +kernel⟩
theorem cl_law_7 : CLk "FerryLandLaw" 7 10 8 := ⟨RX10, TX10, tyX10, rfl, igX10, tyX10_ok, mw_141, mw_142, mw_121, by decide, rfl, by decide +kernel⟩
theorem cl_law_10 : CLk "FerryLandLaw" 10 11 61 := ⟨RX11, TX11, tyX11, rfl, igX11, tyX11_ok, mw_1290, mw_1291, mw_133, by decide, rfl, by decide +kernel⟩
