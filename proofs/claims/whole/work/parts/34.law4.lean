theorem dL_law_0 : decode cL_law 0 = .ok (.new 7, 3) := by decide +kernel
theorem dL_law_3 : decode cL_law 3 = .ok (.dup, 1) := by decide +kernel
theorem dL_law_4 : decode cL_law 4 = .ok (.invokespecial 9, 3) := by decide +kernel
theorem dL_law_7 : decode cL_law 7 = .ok (.astore_n 1, 1) := by decide +kernel
theorem dL_law_8 : decode cL_law 8 = .ok (.new 10, 3) := by decide +kernel
theorem dL_law_11 : decode cL_law 11 = .ok (.dup, 1) := by decide +kernel
theorem dL_law_12 : decode cL_law 12 = .ok (.invokespecial 12, 3) := by decide +kernel
theorem dL_law_15 : decode cL_law 15 = .ok (.astore_n 2, 1) := by decide +kernel
theorem dL_law_16 : decode cL_law 16 = .ok (.iconst 0, 1) := by decide +kernel
theorem dL_law_17 : decode cL_law 17 = .ok (.istore_n 3, 1) := by decide +kernel
theorem dL_law_18 : decode cL_law 18 = .ok (.iload_n 3, 1) := by decide +kernel
theorem dL_law_19 : decode cL_law 19 = .ok (.aload_n 0, 1) := by decide +kernel
theorem dL_law_20 : decode cL_law 20 = .ok (.arraylength, 1) := by decide +kernel
theorem dL_law_21 : decode cL_law 21 = .ok (.bipush 6, 2) := by decide +kernel
theorem dL_law_23 : decode cL_law 23 = .ok (.isub, 1) := by decide +kernel
theorem dL_law_24 : decode cL_law 24 = .ok (.if_icmp .gt 1073, 3) := by decide +kernel
theorem dL_law_27 : decode cL_law 27 = .ok (.aload_n 0, 1) := by decide +kernel
theorem dL_law_28 : decode cL_law 28 = .ok (.iload_n 3, 1) := by decide +kernel
theorem dL_law_29 : decode cL_law 29 = .ok (.iaload, 1) := by decide +kernel
theorem dL_law_30 : decode cL_law 30 = .ok (.bipush 63, 2) := by decide +kernel
theorem dL_law_32 : decode cL_law 32 = .ok (.iand, 1) := by decide +kernel
theorem dL_law_33 : decode cL_law 33 = .ok (.tableswitch 1058 0 35 #[159, 192, 225, 258, 301, 334, 367, 430, 453, 466, 479, 492, 505, 518, 531, 554, 597, 620, 643, 656, 669, 692, 725, 749, 772, 795, 818, 841, 864, 897, 920, 953, 976, 999, 1022, 1045], 159) := by decide +kernel
theorem dL_law_192 : decode cL_law 192 = .ok (.aload_n 1, 1) := by decide +kernel
theorem dL_law_193 : decode cL_law 193 = .ok (.aload_n 0, 1) := by decide +kernel
theorem dL_law_194 : decode cL_law 194 = .ok (.iload_n 3, 1) := by decide +kernel
theorem dL_law_195 : decode cL_law 195 = .ok (.iconst 1, 1) := by decide +kernel
theorem dL_law_196 : decode cL_law 196 = .ok (.iadd, 1) := by decide +kernel
theorem dL_law_197 : decode cL_law 197 = .ok (.iaload, 1) := by decide +kernel
theorem dL_law_198 : decode cL_law 198 = .ok (.aload_n 0, 1) := by decide +kernel
theorem dL_law_199 : decode cL_law 199 = .ok (.iload_n 3, 1) := by decide +kernel
theorem dL_law_200 : decode cL_law 200 = .ok (.iconst 2, 1) := by decide +kernel
theorem dL_law_201 : decode cL_law 201 = .ok (.iadd, 1) := by decide +kernel
theorem dL_law_202 : decode cL_law 202 = .ok (.iaload, 1) := by decide +kernel
theorem dL_law_203 : decode cL_law 203 = .ok (.invokevirtual 13, 3) := by decide +kernel
theorem dL_law_206 : decode cL_law 206 = .ok (.aload_n 2, 1) := by decide +kernel
theorem dL_law_207 : decode cL_law 207 = .ok (.aload_n 0, 1) := by decide +kernel
theorem dL_law_208 : decode cL_law 208 = .ok (.iload_n 3, 1) := by decide +kernel
theorem dL_law_209 : decode cL_law 209 = .ok (.iconst 1, 1) := by decide +kernel
theorem dL_law_210 : decode cL_law 210 = .ok (.iadd, 1) := by decide +kernel
theorem dL_law_211 : decode cL_law 211 = .ok (.iaload, 1) := by decide +kernel
theorem dL_law_212 : decode cL_law 212 = .ok (.aload_n 0, 1) := by decide +kernel
theorem dL_law_213 : decode cL_law 213 = .ok (.iload_n 3, 1) := by decide +kernel
theorem dL_law_214 : decode cL_law 214 = .ok (.iconst 2, 1) := by decide +kernel
theorem dL_law_215 : decode cL_law 215 = .ok (.iadd, 1) := by decide +kernel
theorem dL_law_216 : decode cL_law 216 = .ok (.iaload, 1) := by decide +kernel
theorem dL_law_217 : decode cL_law 217 = .ok (.invokevirtual 17, 3) := by decide +kernel
theorem dL_law_220 : decode cL_law 220 = .ok (.if_icmp .eq 871, 3) := by decide +kernel
theorem dL_law_223 : decode cL_law 223 = .ok (.iconst 0, 1) := by decide +kernel
theorem dL_law_224 : decode cL_law 224 = .ok (.ireturn, 1) := by decide +kernel
theorem dL_law_225 : decode cL_law 225 = .ok (.aload_n 1, 1) := by decide +kernel
theorem dL_law_226 : decode cL_law 226 = .ok (.aload_n 0, 1) := by decide +kernel
theorem dL_law_227 : decode cL_law 227 = .ok (.iload_n 3, 1) := by decide +kernel
theorem dL_law_228 : decode cL_law 228 = .ok (.iconst 1, 1) := by decide +kernel
theorem dL_law_229 : decode cL_law 229 = .ok (.iadd, 1) := by decide +kernel
theorem dL_law_230 : decode cL_law 230 = .ok (.iaload, 1) := by decide +kernel
theorem dL_law_231 : decode cL_law 231 = .ok (.aload_n 0, 1) := by decide +kernel
theorem dL_law_232 : decode cL_law 232 = .ok (.iload_n 3, 1) := by decide +kernel
theorem dL_law_233 : decode cL_law 233 = .ok (.iconst 2, 1) := by decide +kernel
theorem dL_law_234 : decode cL_law 234 = .ok (.iadd, 1) := by decide +kernel
theorem dL_law_235 : decode cL_law 235 = .ok (.iaload, 1) := by decide +kernel
theorem dL_law_236 : decode cL_law 236 = .ok (.invokevirtual 18, 3) := by decide +kernel
theorem dL_law_239 : decode cL_law 239 = .ok (.aload_n 2, 1) := by decide +kernel
theorem dL_law_240 : decode cL_law 240 = .ok (.aload_n 0, 1) := by decide +kernel
theorem dL_law_241 : decode cL_law 241 = .ok (.iload_n 3, 1) := by decide +kernel
theorem dL_law_242 : decode cL_law 242 = .ok (.iconst 1, 1) := by decide +kernel
theorem dL_law_243 : decode cL_law 243 = .ok (.iadd, 1) := by decide +kernel
theorem dL_law_244 : decode cL_law 244 = .ok (.iaload, 1) := by decide +kernel
theorem dL_law_245 : decode cL_law 245 = .ok (.aload_n 0, 1) := by decide +kernel
theorem dL_law_246 : decode cL_law 246 = .ok (.iload_n 3, 1) := by decide +kernel
theorem dL_law_247 : decode cL_law 247 = .ok (.iconst 2, 1) := by decide +kernel
theorem dL_law_248 : decode cL_law 248 = .ok (.iadd, 1) := by decide +kernel
theorem dL_law_249 : decode cL_law 249 = .ok (.iaload, 1) := by decide +kernel
theorem dL_law_250 : decode cL_law 250 = .ok (.invokevirtual 21, 3) := by decide +kernel
theorem dL_law_253 : decode cL_law 253 = .ok (.if_icmp .eq 838, 3) := by decide +kernel
theorem dL_law_256 : decode cL_law 256 = .ok (.iconst 0, 1) := by decide +kernel
theorem dL_law_257 : decode cL_law 257 = .ok (.ireturn, 1) := by decide +kernel
theorem dL_law_258 : decode cL_law 258 = .ok (.aload_n 1, 1) := by decide +kernel
theorem dL_law_259 : decode cL_law 259 = .ok (.aload_n 0, 1) := by decide +kernel
theorem dL_law_260 : decode cL_law 260 = .ok (.iload_n 3, 1) := by decide +kernel
theorem dL_law_261 : decode cL_law 261 = .ok (.iconst 1, 1) := by decide +kernel
theorem dL_law_262 : decode cL_law 262 = .ok (.iadd, 1) := by decide +kernel
theorem dL_law_263 : decode cL_law 263 = .ok (.iaload, 1) := by decide +kernel
theorem dL_law_264 : decode cL_law 264 = .ok (.aload_n 0, 1) := by decide +kernel
theorem dL_law_265 : decode cL_law 265 = .ok (.iload_n 3, 1) := by decide +kernel
theorem dL_law_266 : decode cL_law 266 = .ok (.iconst 2, 1) := by decide +kernel
theorem dL_law_267 : decode cL_law 267 = .ok (.iadd, 1) := by decide +kernel
theorem dL_law_268 : decode cL_law 268 = .ok (.iaload, 1) := by decide +kernel
theorem dL_law_269 : decode cL_law 269 = .ok (.invokevirtual 22, 3) := by decide +kernel
theorem dL_law_272 : decode cL_law 272 = .ok (.aload_n 2, 1) := by decide +kernel
theorem dL_law_273 : decode cL_law 273 = .ok (.aload_n 0, 1) := by decide +kernel
theorem dL_law_274 : decode cL_law 274 = .ok (.iload_n 3, 1) := by decide +kernel
theorem dL_law_275 : decode cL_law 275 = .ok (.iconst 1, 1) := by decide +kernel
theorem dL_law_276 : decode cL_law 276 = .ok (.iadd, 1) := by decide +kernel
theorem dL_law_277 : decode cL_law 277 = .ok (.iaload, 1) := by decide +kernel
theorem dL_law_278 : decode cL_law 278 = .ok (.aload_n 0, 1) := by decide +kernel
theorem dL_law_279 : decode cL_law 279 = .ok (.iload_n 3, 1) := by decide +kernel
theorem dL_law_280 : decode cL_law 280 = .ok (.iconst 2, 1) := by decide +kernel
theorem dL_law_281 : decode cL_law 281 = .ok (.iadd, 1) := by decide +kernel
theorem dL_law_282 : decode cL_law 282 = .ok (.iaload, 1) := by decide +kernel
theorem dL_law_283 : decode cL_law 283 = .ok (.invokevirtual 25, 3) := by decide +kernel
theorem dL_law_286 : decode cL_law 286 = .ok (.if_icmp .eq 805, 3) := by decide +kernel
theorem dL_law_289 : decode cL_law 289 = .ok (.iconst 0, 1) := by decide +kernel
theorem dL_law_290 : decode cL_law 290 = .ok (.ireturn, 1) := by decide +kernel
theorem dL_law_291 : decode cL_law 291 = .ok (.aload_n 1, 1) := by decide +kernel
theorem dL_law_292 : decode cL_law 292 = .ok (.aload_n 0, 1) := by decide +kernel
theorem dL_law_293 : decode cL_law 293 = .ok (.iload_n 3, 1) := by decide +kernel
theorem dL_law_294 : decode cL_law 294 = .ok (.iconst 1, 1) := by decide +kernel
theorem dL_law_295 : decode cL_law 295 = .ok (.iadd, 1) := by decide +kernel
theorem dL_law_296 : decode cL_law 296 = .ok (.iaload, 1) := by decide +kernel
theorem dL_law_297 : decode cL_law 297 = .ok (.aload_n 0, 1) := by decide +kernel
theorem dL_law_298 : decode cL_law 298 = .ok (.iload_n 3, 1) := by decide +kernel
theorem dL_law_299 : decode cL_law 299 = .ok (.iconst 2, 1) := by decide +kernel
theorem dL_law_300 : decode cL_law 300 = .ok (.iadd, 1) := by decide +kernel
theorem dL_law_301 : decode cL_law 301 = .ok (.iaload, 1) := by decide +kernel
theorem dL_law_302 : decode cL_law 302 = .ok (.aload_n 0, 1) := by decide +kernel
theorem dL_law_303 : decode cL_law 303 = .ok (.iload_n 3, 1) := by decide +kernel
theorem dL_law_304 : decode cL_law 304 = .ok (.iconst 3, 1) := by decide +kernel
theorem dL_law_305 : decode cL_law 305 = .ok (.iadd, 1) := by decide +kernel
theorem dL_law_306 : decode cL_law 306 = .ok (.iaload, 1) := by decide +kernel
theorem dL_law_307 : decode cL_law 307 = .ok (.invokevirtual 26, 3) := by decide +kernel
theorem dL_law_310 : decode cL_law 310 = .ok (.aload_n 2, 1) := by decide +kernel
theorem dL_law_311 : decode cL_law 311 = .ok (.aload_n 0, 1) := by decide +kernel
theorem dL_law_312 : decode cL_law 312 = .ok (.iload_n 3, 1) := by decide +kernel
theorem dL_law_313 : decode cL_law 313 = .ok (.iconst 1, 1) := by decide +kernel
theorem dL_law_314 : decode cL_law 314 = .ok (.iadd, 1) := by decide +kernel
theorem dL_law_315 : decode cL_law 315 = .ok (.iaload, 1) := by decide +kernel
theorem dL_law_316 : decode cL_law 316 = .ok (.aload_n 0, 1) := by decide +kernel
theorem dL_law_317 : decode cL_law 317 = .ok (.iload_n 3, 1) := by decide +kernel
theorem dL_law_318 : decode cL_law 318 = .ok (.iconst 2, 1) := by decide +kernel
theorem dL_law_319 : decode cL_law 319 = .ok (.iadd, 1) := by decide +kernel
theorem dL_law_320 : decode cL_law 320 = .ok (.iaload, 1) := by decide +kernel
theorem dL_law_321 : decode cL_law 321 = .ok (.aload_n 0, 1) := by decide +kernel
theorem dL_law_322 : decode cL_law 322 = .ok (.iload_n 3, 1) := by decide +kernel
theorem dL_law_323 : decode cL_law 323 = .ok (.iconst 3, 1) := by decide +kernel
theorem dL_law_324 : decode cL_law 324 = .ok (.iadd, 1) := by decide +kernel
theorem dL_law_325 : decode cL_law 325 = .ok (.iaload, 1) := by decide +kernel
theorem dL_law_326 : decode cL_law 326 = .ok (.invokevirtual 30, 3) := by decide +kernel
theorem dL_law_329 : decode cL_law 329 = .ok (.if_icmp .eq 762, 3) := by decide +kernel
theorem dL_law_332 : decode cL_law 332 = .ok (.iconst 0, 1) := by decide +kernel
theorem dL_law_333 : decode cL_law 333 = .ok (.ireturn, 1) := by decide +kernel
theorem dL_law_334 : decode cL_law 334 = .ok (.aload_n 1, 1) := by decide +kernel
theorem dL_law_335 : decode cL_law 335 = .ok (.aload_n 0, 1) := by decide +kernel
theorem dL_law_336 : decode cL_law 336 = .ok (.iload_n 3, 1) := by decide +kernel
theorem dL_law_337 : decode cL_law 337 = .ok (.iconst 1, 1) := by decide +kernel
theorem dL_law_338 : decode cL_law 338 = .ok (.iadd, 1) := by decide +kernel
theorem dL_law_339 : decode cL_law 339 = .ok (.iaload, 1) := by decide +kernel
theorem dL_law_340 : decode cL_law 340 = .ok (.aload_n 0, 1) := by decide +kernel
theorem dL_law_341 : decode cL_law 341 = .ok (.iload_n 3, 1) := by decide +kernel
theorem dL_law_342 : decode cL_law 342 = .ok (.iconst 2, 1) := by decide +kernel
theorem dL_law_343 : decode cL_law 343 = .ok (.iadd, 1) := by decide +kernel
theorem dL_law_344 : decode cL_law 344 = .ok (.iaload, 1) := by decide +kernel
theorem dL_law_345 : decode cL_law 345 = .ok (.invokevirtual 31, 3) := by decide +kernel
theorem dL_law_348 : decode cL_law 348 = .ok (.aload_n 2, 1) := by decide +kernel
theorem dL_law_349 : decode cL_law 349 = .ok (.aload_n 0, 1) := by decide +kernel
theorem dL_law_350 : decode cL_law 350 = .ok (.iload_n 3, 1) := by decide +kernel
theorem dL_law_351 : decode cL_law 351 = .ok (.iconst 1, 1) := by decide +kernel
theorem dL_law_352 : decode cL_law 352 = .ok (.iadd, 1) := by decide +kernel
theorem dL_law_353 : decode cL_law 353 = .ok (.iaload, 1) := by decide +kernel
theorem dL_law_354 : decode cL_law 354 = .ok (.aload_n 0, 1) := by decide +kernel
theorem dL_law_355 : decode cL_law 355 = .ok (.iload_n 3, 1) := by decide +kernel
theorem dL_law_356 : decode cL_law 356 = .ok (.iconst 2, 1) := by decide +kernel
theorem dL_law_357 : decode cL_law 357 = .ok (.iadd, 1) := by decide +kernel
theorem dL_law_358 : decode cL_law 358 = .ok (.iaload, 1) := by decide +kernel
theorem dL_law_359 : decode cL_law 359 = .ok (.invokevirtual 34, 3) := by decide +kernel
theorem dL_law_362 : decode cL_law 362 = .ok (.if_icmp .eq 729, 3) := by decide +kernel
theorem dL_law_365 : decode cL_law 365 = .ok (.iconst 0, 1) := by decide +kernel
theorem dL_law_366 : decode cL_law 366 = .ok (.ireturn, 1) := by decide +kernel
theorem dL_law_367 : decode cL_law 367 = .ok (.aload_n 1, 1) := by decide +kernel
theorem dL_law_368 : decode cL_law 368 = .ok (.aload_n 0, 1) := by decide +kernel
theorem dL_law_369 : decode cL_law 369 = .ok (.iload_n 3, 1) := by decide +kernel
theorem dL_law_370 : decode cL_law 370 = .ok (.iconst 1, 1) := by decide +kernel
theorem dL_law_371 : decode cL_law 371 = .ok (.iadd, 1) := by decide +kernel
theorem dL_law_372 : decode cL_law 372 = .ok (.iaload, 1) := by decide +kernel
theorem dL_law_373 : decode cL_law 373 = .ok (.aload_n 0, 1) := by decide +kernel
theorem dL_law_374 : decode cL_law 374 = .ok (.iload_n 3, 1) := by decide +kernel
theorem dL_law_375 : decode cL_law 375 = .ok (.iconst 2, 1) := by decide +kernel
theorem dL_law_376 : decode cL_law 376 = .ok (.iadd, 1) := by decide +kernel
theorem dL_law_377 : decode cL_law 377 = .ok (.iaload, 1) := by decide +kernel
theorem dL_law_378 : decode cL_law 378 = .ok (.invokevirtual 35, 3) := by decide +kernel
theorem dL_law_381 : decode cL_law 381 = .ok (.aload_n 2, 1) := by decide +kernel
theorem dL_law_382 : decode cL_law 382 = .ok (.aload_n 0, 1) := by decide +kernel
theorem dL_law_383 : decode cL_law 383 = .ok (.iload_n 3, 1) := by decide +kernel
theorem dL_law_384 : decode cL_law 384 = .ok (.iconst 1, 1) := by decide +kernel
theorem dL_law_385 : decode cL_law 385 = .ok (.iadd, 1) := by decide +kernel
theorem dL_law_386 : decode cL_law 386 = .ok (.iaload, 1) := by decide +kernel
theorem dL_law_387 : decode cL_law 387 = .ok (.aload_n 0, 1) := by decide +kernel
theorem dL_law_388 : decode cL_law 388 = .ok (.iload_n 3, 1) := by decide +kernel
theorem dL_law_389 : decode cL_law 389 = .ok (.iconst 2, 1) := by decide +kernel
theorem dL_law_390 : decode cL_law 390 = .ok (.iadd, 1) := by decide +kernel
theorem dL_law_391 : decode cL_law 391 = .ok (.iaload, 1) := by decide +kernel
theorem dL_law_392 : decode cL_law 392 = .ok (.invokevirtual 38, 3) := by decide +kernel
theorem dL_law_395 : decode cL_law 395 = .ok (.if_icmp .eq 696, 3) := by decide +kernel
theorem dL_law_398 : decode cL_law 398 = .ok (.iconst 0, 1) := by decide +kernel
theorem dL_law_399 : decode cL_law 399 = .ok (.ireturn, 1) := by decide +kernel
theorem dL_law_400 : decode cL_law 400 = .ok (.aload_n 1, 1) := by decide +kernel
theorem dL_law_401 : decode cL_law 401 = .ok (.aload_n 0, 1) := by decide +kernel
theorem dL_law_402 : decode cL_law 402 = .ok (.iload_n 3, 1) := by decide +kernel
theorem dL_law_403 : decode cL_law 403 = .ok (.iconst 1, 1) := by decide +kernel
theorem dL_law_404 : decode cL_law 404 = .ok (.iadd, 1) := by decide +kernel
theorem dL_law_405 : decode cL_law 405 = .ok (.iaload, 1) := by decide +kernel
theorem dL_law_406 : decode cL_law 406 = .ok (.aload_n 0, 1) := by decide +kernel
theorem dL_law_407 : decode cL_law 407 = .ok (.iload_n 3, 1) := by decide +kernel
theorem dL_law_408 : decode cL_law 408 = .ok (.iconst 2, 1) := by decide +kernel
theorem dL_law_409 : decode cL_law 409 = .ok (.iadd, 1) := by decide +kernel
theorem dL_law_410 : decode cL_law 410 = .ok (.iaload, 1) := by decide +kernel
theorem dL_law_411 : decode cL_law 411 = .ok (.aload_n 0, 1) := by decide +kernel
theorem dL_law_412 : decode cL_law 412 = .ok (.iload_n 3, 1) := by decide +kernel
theorem dL_law_413 : decode cL_law 413 = .ok (.iconst 3, 1) := by decide +kernel
theorem dL_law_414 : decode cL_law 414 = .ok (.iadd, 1) := by decide +kernel
theorem dL_law_415 : decode cL_law 415 = .ok (.iaload, 1) := by decide +kernel
theorem dL_law_416 : decode cL_law 416 = .ok (.aload_n 0, 1) := by decide +kernel
theorem dL_law_417 : decode cL_law 417 = .ok (.iload_n 3, 1) := by decide +kernel
theorem dL_law_418 : decode cL_law 418 = .ok (.iconst 4, 1) := by decide +kernel
theorem dL_law_419 : decode cL_law 419 = .ok (.iadd, 1) := by decide +kernel
theorem dL_law_420 : decode cL_law 420 = .ok (.iaload, 1) := by decide +kernel
theorem dL_law_421 : decode cL_law 421 = .ok (.aload_n 0, 1) := by decide +kernel
theorem dL_law_422 : decode cL_law 422 = .ok (.iload_n 3, 1) := by decide +kernel
theorem dL_law_423 : decode cL_law 423 = .ok (.iconst 5, 1) := by decide +kernel
theorem dL_law_424 : decode cL_law 424 = .ok (.iadd, 1) := by decide +kernel
theorem dL_law_425 : decode cL_law 425 = .ok (.iaload, 1) := by decide +kernel
theorem dL_law_426 : decode cL_law 426 = .ok (.invokevirtual 39, 3) := by decide +kernel
theorem dL_law_429 : decode cL_law 429 = .ok (.aload_n 2, 1) := by decide +kernel
theorem dL_law_430 : decode cL_law 430 = .ok (.aload_n 0, 1) := by decide +kernel
theorem dL_law_431 : decode cL_law 431 = .ok (.iload_n 3, 1) := by decide +kernel
theorem dL_law_432 : decode cL_law 432 = .ok (.iconst 1, 1) := by decide +kernel
theorem dL_law_433 : decode cL_law 433 = .ok (.iadd, 1) := by decide +kernel
theorem dL_law_434 : decode cL_law 434 = .ok (.iaload, 1) := by decide +kernel
theorem dL_law_435 : decode cL_law 435 = .ok (.aload_n 0, 1) := by decide +kernel
theorem dL_law_436 : decode cL_law 436 = .ok (.iload_n 3, 1) := by decide +kernel
theorem dL_law_437 : decode cL_law 437 = .ok (.iconst 2, 1) := by decide +kernel
theorem dL_law_438 : decode cL_law 438 = .ok (.iadd, 1) := by decide +kernel
theorem dL_law_439 : decode cL_law 439 = .ok (.iaload, 1) := by decide +kernel
theorem dL_law_440 : decode cL_law 440 = .ok (.aload_n 0, 1) := by decide +kernel
theorem dL_law_441 : decode cL_law 441 = .ok (.iload_n 3, 1) := by decide +kernel
theorem dL_law_442 : decode cL_law 442 = .ok (.iconst 3, 1) := by decide +kernel
theorem dL_law_443 : decode cL_law 443 = .ok (.iadd, 1) := by decide +kernel
theorem dL_law_444 : decode cL_law 444 = .ok (.iaload, 1) := by decide +kernel
theorem dL_law_445 : decode cL_law 445 = .ok (.aload_n 0, 1) := by decide +kernel
theorem dL_law_446 : decode cL_law 446 = .ok (.iload_n 3, 1) := by decide +kernel
theorem dL_law_447 : decode cL_law 447 = .ok (.iconst 4, 1) := by decide +kernel
theorem dL_law_448 : decode cL_law 448 = .ok (.iadd, 1) := by decide +kernel
theorem dL_law_449 : decode cL_law 449 = .ok (.iaload, 1) := by decide +kernel
theorem dL_law_450 : decode cL_law 450 = .ok (.aload_n 0, 1) := by decide +kernel
theorem dL_law_451 : decode cL_law 451 = .ok (.iload_n 3, 1) := by decide +kernel
theorem dL_law_452 : decode cL_law 452 = .ok (.iconst 5, 1) := by decide +kernel
theorem dL_law_453 : decode cL_law 453 = .ok (.iadd, 1) := by decide +kernel
theorem dL_law_454 : decode cL_law 454 = .ok (.iaload, 1) := by decide +kernel
theorem dL_law_455 : decode cL_law 455 = .ok (.invokevirtual 43, 3) := by decide +kernel
theorem dL_law_458 : decode cL_law 458 = .ok (.if_icmp .eq 633, 3) := by decide +kernel
theorem dL_law_461 : decode cL_law 461 = .ok (.iconst 0, 1) := by decide +kernel
theorem dL_law_462 : decode cL_law 462 = .ok (.ireturn, 1) := by decide +kernel
theorem dL_law_463 : decode cL_law 463 = .ok (.aload_n 1, 1) := by decide +kernel
theorem dL_law_464 : decode cL_law 464 = .ok (.aload_n 0, 1) := by decide +kernel
theorem dL_law_465 : decode cL_law 465 = .ok (.iload_n 3, 1) := by decide +kernel
theorem dL_law_466 : decode cL_law 466 = .ok (.iconst 1, 1) := by decide +kernel
theorem dL_law_467 : decode cL_law 467 = .ok (.iadd, 1) := by decide +kernel
theorem dL_law_468 : decode cL_law 468 = .ok (.iaload, 1) := by decide +kernel
theorem dL_law_469 : decode cL_law 469 = .ok (.invokevirtual 44, 3) := by decide +kernel
theorem dL_law_472 : decode cL_law 472 = .ok (.aload_n 2, 1) := by decide +kernel
theorem dL_law_473 : decode cL_law 473 = .ok (.aload_n 0, 1) := by decide +kernel
theorem dL_law_474 : decode cL_law 474 = .ok (.iload_n 3, 1) := by decide +kernel
theorem dL_law_475 : decode cL_law 475 = .ok (.iconst 1, 1) := by decide +kernel
theorem dL_law_476 : decode cL_law 476 = .ok (.iadd, 1) := by decide +kernel
theorem dL_law_477 : decode cL_law 477 = .ok (.iaload, 1) := by decide +kernel
theorem dL_law_478 : decode cL_law 478 = .ok (.invokevirtual 48, 3) := by decide +kernel
theorem dL_law_481 : decode cL_law 481 = .ok (.if_icmp .eq 610, 3) := by decide +kernel
theorem dL_law_484 : decode cL_law 484 = .ok (.iconst 0, 1) := by decide +kernel
theorem dL_law_485 : decode cL_law 485 = .ok (.ireturn, 1) := by decide +kernel
theorem dL_law_486 : decode cL_law 486 = .ok (.aload_n 1, 1) := by decide +kernel
theorem dL_law_487 : decode cL_law 487 = .ok (.invokevirtual 49, 3) := by decide +kernel
theorem dL_law_490 : decode cL_law 490 = .ok (.aload_n 2, 1) := by decide +kernel
theorem dL_law_491 : decode cL_law 491 = .ok (.invokevirtual 53, 3) := by decide +kernel
theorem dL_law_494 : decode cL_law 494 = .ok (.if_icmp .eq 597, 3) := by decide +kernel
theorem dL_law_497 : decode cL_law 497 = .ok (.iconst 0, 1) := by decide +kernel
theorem dL_law_498 : decode cL_law 498 = .ok (.ireturn, 1) := by decide +kernel
theorem dL_law_499 : decode cL_law 499 = .ok (.aload_n 1, 1) := by decide +kernel
theorem dL_law_500 : decode cL_law 500 = .ok (.invokevirtual 54, 3) := by decide +kernel
theorem dL_law_503 : decode cL_law 503 = .ok (.aload_n 2, 1) := by decide +kernel
theorem dL_law_504 : decode cL_law 504 = .ok (.invokevirtual 57, 3) := by decide +kernel
theorem dL_law_507 : decode cL_law 507 = .ok (.if_icmp .eq 584, 3) := by decide +kernel
theorem dL_law_510 : decode cL_law 510 = .ok (.iconst 0, 1) := by decide +kernel
theorem dL_law_511 : decode cL_law 511 = .ok (.ireturn, 1) := by decide +kernel
theorem dL_law_512 : decode cL_law 512 = .ok (.aload_n 1, 1) := by decide +kernel
theorem dL_law_513 : decode cL_law 513 = .ok (.invokevirtual 58, 3) := by decide +kernel
theorem dL_law_516 : decode cL_law 516 = .ok (.aload_n 2, 1) := by decide +kernel
theorem dL_law_517 : decode cL_law 517 = .ok (.invokevirtual 61, 3) := by decide +kernel
theorem dL_law_520 : decode cL_law 520 = .ok (.if_icmp .eq 571, 3) := by decide +kernel
theorem dL_law_523 : decode cL_law 523 = .ok (.iconst 0, 1) := by decide +kernel
theorem dL_law_524 : decode cL_law 524 = .ok (.ireturn, 1) := by decide +kernel
theorem dL_law_525 : decode cL_law 525 = .ok (.aload_n 1, 1) := by decide +kernel
theorem dL_law_526 : decode cL_law 526 = .ok (.invokevirtual 62, 3) := by decide +kernel
theorem dL_law_529 : decode cL_law 529 = .ok (.aload_n 2, 1) := by decide +kernel
theorem dL_law_530 : decode cL_law 530 = .ok (.invokevirtual 65, 3) := by decide +kernel
theorem dL_law_533 : decode cL_law 533 = .ok (.if_icmp .eq 558, 3) := by decide +kernel
theorem dL_law_536 : decode cL_law 536 = .ok (.iconst 0, 1) := by decide +kernel
theorem dL_law_537 : decode cL_law 537 = .ok (.ireturn, 1) := by decide +kernel
theorem dL_law_538 : decode cL_law 538 = .ok (.aload_n 1, 1) := by decide +kernel
theorem dL_law_539 : decode cL_law 539 = .ok (.invokevirtual 66, 3) := by decide +kernel
theorem dL_law_542 : decode cL_law 542 = .ok (.aload_n 2, 1) := by decide +kernel
theorem dL_law_543 : decode cL_law 543 = .ok (.invokevirtual 69, 3) := by decide +kernel
theorem dL_law_546 : decode cL_law 546 = .ok (.if_icmp .eq 545, 3) := by decide +kernel
theorem dL_law_549 : decode cL_law 549 = .ok (.iconst 0, 1) := by decide +kernel
theorem dL_law_550 : decode cL_law 550 = .ok (.ireturn, 1) := by decide +kernel
theorem dL_law_551 : decode cL_law 551 = .ok (.aload_n 1, 1) := by decide +kernel
theorem dL_law_552 : decode cL_law 552 = .ok (.invokevirtual 70, 3) := by decide +kernel
theorem dL_law_555 : decode cL_law 555 = .ok (.aload_n 2, 1) := by decide +kernel
theorem dL_law_556 : decode cL_law 556 = .ok (.invokevirtual 73, 3) := by decide +kernel
theorem dL_law_559 : decode cL_law 559 = .ok (.if_icmp .eq 532, 3) := by decide +kernel
theorem dL_law_562 : decode cL_law 562 = .ok (.iconst 0, 1) := by decide +kernel
theorem dL_law_563 : decode cL_law 563 = .ok (.ireturn, 1) := by decide +kernel
theorem dL_law_564 : decode cL_law 564 = .ok (.aload_n 1, 1) := by decide +kernel
theorem dL_law_565 : decode cL_law 565 = .ok (.aload_n 0, 1) := by decide +kernel
theorem dL_law_566 : decode cL_law 566 = .ok (.iload_n 3, 1) := by decide +kernel
theorem dL_law_567 : decode cL_law 567 = .ok (.iconst 1, 1) := by decide +kernel
theorem dL_law_568 : decode cL_law 568 = .ok (.iadd, 1) := by decide +kernel
theorem dL_law_569 : decode cL_law 569 = .ok (.iaload, 1) := by decide +kernel
theorem dL_law_570 : decode cL_law 570 = .ok (.invokevirtual 74, 3) := by decide +kernel
theorem dL_law_573 : decode cL_law 573 = .ok (.aload_n 2, 1) := by decide +kernel
theorem dL_law_574 : decode cL_law 574 = .ok (.aload_n 0, 1) := by decide +kernel
theorem dL_law_575 : decode cL_law 575 = .ok (.iload_n 3, 1) := by decide +kernel
theorem dL_law_576 : decode cL_law 576 = .ok (.iconst 1, 1) := by decide +kernel
theorem dL_law_577 : decode cL_law 577 = .ok (.iadd, 1) := by decide +kernel
theorem dL_law_578 : decode cL_law 578 = .ok (.iaload, 1) := by decide +kernel
theorem dL_law_579 : decode cL_law 579 = .ok (.invokevirtual 77, 3) := by decide +kernel
theorem dL_law_582 : decode cL_law 582 = .ok (.if_icmp .eq 509, 3) := by decide +kernel
theorem dL_law_585 : decode cL_law 585 = .ok (.iconst 0, 1) := by decide +kernel
theorem dL_law_586 : decode cL_law 586 = .ok (.ireturn, 1) := by decide +kernel
theorem dL_law_587 : decode cL_law 587 = .ok (.aload_n 1, 1) := by decide +kernel
theorem dL_law_588 : decode cL_law 588 = .ok (.aload_n 0, 1) := by decide +kernel
theorem dL_law_589 : decode cL_law 589 = .ok (.iload_n 3, 1) := by decide +kernel
theorem dL_law_590 : decode cL_law 590 = .ok (.iconst 1, 1) := by decide +kernel
theorem dL_law_591 : decode cL_law 591 = .ok (.iadd, 1) := by decide +kernel
theorem dL_law_592 : decode cL_law 592 = .ok (.iaload, 1) := by decide +kernel
theorem dL_law_593 : decode cL_law 593 = .ok (.aload_n 0, 1) := by decide +kernel
theorem dL_law_594 : decode cL_law 594 = .ok (.iload_n 3, 1) := by decide +kernel
theorem dL_law_595 : decode cL_law 595 = .ok (.iconst 2, 1) := by decide +kernel
theorem dL_law_596 : decode cL_law 596 = .ok (.iadd, 1) := by decide +kernel
theorem dL_law_597 : decode cL_law 597 = .ok (.iaload, 1) := by decide +kernel
theorem dL_law_598 : decode cL_law 598 = .ok (.aload_n 0, 1) := by decide +kernel
theorem dL_law_599 : decode cL_law 599 = .ok (.iload_n 3, 1) := by decide +kernel
theorem dL_law_600 : decode cL_law 600 = .ok (.iconst 3, 1) := by decide +kernel
theorem dL_law_601 : decode cL_law 601 = .ok (.iadd, 1) := by decide +kernel
theorem dL_law_602 : decode cL_law 602 = .ok (.iaload, 1) := by decide +kernel
theorem dL_law_603 : decode cL_law 603 = .ok (.invokevirtual 78, 3) := by decide +kernel
theorem dL_law_606 : decode cL_law 606 = .ok (.aload_n 2, 1) := by decide +kernel
theorem dL_law_607 : decode cL_law 607 = .ok (.aload_n 0, 1) := by decide +kernel
theorem dL_law_608 : decode cL_law 608 = .ok (.iload_n 3, 1) := by decide +kernel
theorem dL_law_609 : decode cL_law 609 = .ok (.iconst 1, 1) := by decide +kernel
theorem dL_law_610 : decode cL_law 610 = .ok (.iadd, 1) := by decide +kernel
theorem dL_law_611 : decode cL_law 611 = .ok (.iaload, 1) := by decide +kernel
theorem dL_law_612 : decode cL_law 612 = .ok (.aload_n 0, 1) := by decide +kernel
theorem dL_law_613 : decode cL_law 613 = .ok (.iload_n 3, 1) := by decide +kernel
theorem dL_law_614 : decode cL_law 614 = .ok (.iconst 2, 1) := by decide +kernel
theorem dL_law_615 : decode cL_law 615 = .ok (.iadd, 1) := by decide +kernel
theorem dL_law_616 : decode cL_law 616 = .ok (.iaload, 1) := by decide +kernel
theorem dL_law_617 : decode cL_law 617 = .ok (.aload_n 0, 1) := by decide +kernel
theorem dL_law_618 : decode cL_law 618 = .ok (.iload_n 3, 1) := by decide +kernel
theorem dL_law_619 : decode cL_law 619 = .ok (.iconst 3, 1) := by decide +kernel
theorem dL_law_620 : decode cL_law 620 = .ok (.iadd, 1) := by decide +kernel
theorem dL_law_621 : decode cL_law 621 = .ok (.iaload, 1) := by decide +kernel
theorem dL_law_622 : decode cL_law 622 = .ok (.invokevirtual 81, 3) := by decide +kernel
theorem dL_law_625 : decode cL_law 625 = .ok (.if_icmp .eq 466, 3) := by decide +kernel
theorem dL_law_628 : decode cL_law 628 = .ok (.iconst 0, 1) := by decide +kernel
theorem dL_law_629 : decode cL_law 629 = .ok (.ireturn, 1) := by decide +kernel
theorem dL_law_630 : decode cL_law 630 = .ok (.aload_n 1, 1) := by decide +kernel
theorem dL_law_631 : decode cL_law 631 = .ok (.aload_n 0, 1) := by decide +kernel
theorem dL_law_632 : decode cL_law 632 = .ok (.iload_n 3, 1) := by decide +kernel
theorem dL_law_633 : decode cL_law 633 = .ok (.iconst 1, 1) := by decide +kernel
theorem dL_law_634 : decode cL_law 634 = .ok (.iadd, 1) := by decide +kernel
theorem dL_law_635 : decode cL_law 635 = .ok (.iaload, 1) := by decide +kernel
theorem dL_law_636 : decode cL_law 636 = .ok (.invokevirtual 82, 3) := by decide +kernel
theorem dL_law_639 : decode cL_law 639 = .ok (.aload_n 2, 1) := by decide +kernel
theorem dL_law_640 : decode cL_law 640 = .ok (.aload_n 0, 1) := by decide +kernel
theorem dL_law_641 : decode cL_law 641 = .ok (.iload_n 3, 1) := by decide +kernel
theorem dL_law_642 : decode cL_law 642 = .ok (.iconst 1, 1) := by decide +kernel
theorem dL_law_643 : decode cL_law 643 = .ok (.iadd, 1) := by decide +kernel
theorem dL_law_644 : decode cL_law 644 = .ok (.iaload, 1) := by decide +kernel
theorem dL_law_645 : decode cL_law 645 = .ok (.invokevirtual 85, 3) := by decide +kernel
theorem dL_law_648 : decode cL_law 648 = .ok (.if_icmp .eq 443, 3) := by decide +kernel
theorem dL_law_651 : decode cL_law 651 = .ok (.iconst 0, 1) := by decide +kernel
theorem dL_law_652 : decode cL_law 652 = .ok (.ireturn, 1) := by decide +kernel
theorem dL_law_653 : decode cL_law 653 = .ok (.aload_n 1, 1) := by decide +kernel
theorem dL_law_654 : decode cL_law 654 = .ok (.aload_n 0, 1) := by decide +kernel
theorem dL_law_655 : decode cL_law 655 = .ok (.iload_n 3, 1) := by decide +kernel
theorem dL_law_656 : decode cL_law 656 = .ok (.iconst 1, 1) := by decide +kernel
theorem dL_law_657 : decode cL_law 657 = .ok (.iadd, 1) := by decide +kernel
theorem dL_law_658 : decode cL_law 658 = .ok (.iaload, 1) := by decide +kernel
theorem dL_law_659 : decode cL_law 659 = .ok (.invokevirtual 86, 3) := by decide +kernel
theorem dL_law_662 : decode cL_law 662 = .ok (.aload_n 2, 1) := by decide +kernel
theorem dL_law_663 : decode cL_law 663 = .ok (.aload_n 0, 1) := by decide +kernel
theorem dL_law_664 : decode cL_law 664 = .ok (.iload_n 3, 1) := by decide +kernel
theorem dL_law_665 : decode cL_law 665 = .ok (.iconst 1, 1) := by decide +kernel
theorem dL_law_666 : decode cL_law 666 = .ok (.iadd, 1) := by decide +kernel
theorem dL_law_667 : decode cL_law 667 = .ok (.iaload, 1) := by decide +kernel
theorem dL_law_668 : decode cL_law 668 = .ok (.invokevirtual 89, 3) := by decide +kernel
theorem dL_law_671 : decode cL_law 671 = .ok (.if_icmp .eq 420, 3) := by decide +kernel
theorem dL_law_674 : decode cL_law 674 = .ok (.iconst 0, 1) := by decide +kernel
theorem dL_law_675 : decode cL_law 675 = .ok (.ireturn, 1) := by decide +kernel
theorem dL_law_676 : decode cL_law 676 = .ok (.aload_n 1, 1) := by decide +kernel
theorem dL_law_677 : decode cL_law 677 = .ok (.invokevirtual 90, 3) := by decide +kernel
theorem dL_law_680 : decode cL_law 680 = .ok (.aload_n 2, 1) := by decide +kernel
theorem dL_law_681 : decode cL_law 681 = .ok (.invokevirtual 93, 3) := by decide +kernel
theorem dL_law_684 : decode cL_law 684 = .ok (.if_icmp .eq 407, 3) := by decide +kernel
theorem dL_law_687 : decode cL_law 687 = .ok (.iconst 0, 1) := by decide +kernel
theorem dL_law_688 : decode cL_law 688 = .ok (.ireturn, 1) := by decide +kernel
theorem dL_law_689 : decode cL_law 689 = .ok (.aload_n 1, 1) := by decide +kernel
theorem dL_law_690 : decode cL_law 690 = .ok (.invokevirtual 94, 3) := by decide +kernel
theorem dL_law_693 : decode cL_law 693 = .ok (.aload_n 2, 1) := by decide +kernel
theorem dL_law_694 : decode cL_law 694 = .ok (.invokevirtual 97, 3) := by decide +kernel
theorem dL_law_697 : decode cL_law 697 = .ok (.if_icmp .eq 394, 3) := by decide +kernel
theorem dL_law_700 : decode cL_law 700 = .ok (.iconst 0, 1) := by decide +kernel
theorem dL_law_701 : decode cL_law 701 = .ok (.ireturn, 1) := by decide +kernel
theorem dL_law_702 : decode cL_law 702 = .ok (.aload_n 1, 1) := by decide +kernel
theorem dL_law_703 : decode cL_law 703 = .ok (.aload_n 0, 1) := by decide +kernel
theorem dL_law_704 : decode cL_law 704 = .ok (.iload_n 3, 1) := by decide +kernel
theorem dL_law_705 : decode cL_law 705 = .ok (.iconst 1, 1) := by decide +kernel
theorem dL_law_706 : decode cL_law 706 = .ok (.iadd, 1) := by decide +kernel
theorem dL_law_707 : decode cL_law 707 = .ok (.iaload, 1) := by decide +kernel
theorem dL_law_708 : decode cL_law 708 = .ok (.invokevirtual 98, 3) := by decide +kernel
theorem dL_law_711 : decode cL_law 711 = .ok (.aload_n 2, 1) := by decide +kernel
theorem dL_law_712 : decode cL_law 712 = .ok (.aload_n 0, 1) := by decide +kernel
theorem dL_law_713 : decode cL_law 713 = .ok (.iload_n 3, 1) := by decide +kernel
theorem dL_law_714 : decode cL_law 714 = .ok (.iconst 1, 1) := by decide +kernel
theorem dL_law_715 : decode cL_law 715 = .ok (.iadd, 1) := by decide +kernel
theorem dL_law_716 : decode cL_law 716 = .ok (.iaload, 1) := by decide +kernel
theorem dL_law_717 : decode cL_law 717 = .ok (.invokevirtual 101, 3) := by decide +kernel
theorem dL_law_720 : decode cL_law 720 = .ok (.if_icmp .eq 371, 3) := by decide +kernel
theorem dL_law_723 : decode cL_law 723 = .ok (.iconst 0, 1) := by decide +kernel
theorem dL_law_724 : decode cL_law 724 = .ok (.ireturn, 1) := by decide +kernel
theorem dL_law_725 : decode cL_law 725 = .ok (.aload_n 1, 1) := by decide +kernel
theorem dL_law_726 : decode cL_law 726 = .ok (.aload_n 0, 1) := by decide +kernel
theorem dL_law_727 : decode cL_law 727 = .ok (.iload_n 3, 1) := by decide +kernel
theorem dL_law_728 : decode cL_law 728 = .ok (.iconst 1, 1) := by decide +kernel
theorem dL_law_729 : decode cL_law 729 = .ok (.iadd, 1) := by decide +kernel
theorem dL_law_730 : decode cL_law 730 = .ok (.iaload, 1) := by decide +kernel
theorem dL_law_731 : decode cL_law 731 = .ok (.aload_n 0, 1) := by decide +kernel
theorem dL_law_732 : decode cL_law 732 = .ok (.iload_n 3, 1) := by decide +kernel
theorem dL_law_733 : decode cL_law 733 = .ok (.iconst 2, 1) := by decide +kernel
theorem dL_law_734 : decode cL_law 734 = .ok (.iadd, 1) := by decide +kernel
theorem dL_law_735 : decode cL_law 735 = .ok (.iaload, 1) := by decide +kernel
theorem dL_law_736 : decode cL_law 736 = .ok (.invokevirtual 102, 3) := by decide +kernel
theorem dL_law_739 : decode cL_law 739 = .ok (.aload_n 2, 1) := by decide +kernel
theorem dL_law_740 : decode cL_law 740 = .ok (.aload_n 0, 1) := by decide +kernel
theorem dL_law_741 : decode cL_law 741 = .ok (.iload_n 3, 1) := by decide +kernel
theorem dL_law_742 : decode cL_law 742 = .ok (.iconst 1, 1) := by decide +kernel
theorem dL_law_743 : decode cL_law 743 = .ok (.iadd, 1) := by decide +kernel
theorem dL_law_744 : decode cL_law 744 = .ok (.iaload, 1) := by decide +kernel
theorem dL_law_745 : decode cL_law 745 = .ok (.aload_n 0, 1) := by decide +kernel
theorem dL_law_746 : decode cL_law 746 = .ok (.iload_n 3, 1) := by decide +kernel
theorem dL_law_747 : decode cL_law 747 = .ok (.iconst 2, 1) := by decide +kernel
theorem dL_law_748 : decode cL_law 748 = .ok (.iadd, 1) := by decide +kernel
theorem dL_law_749 : decode cL_law 749 = .ok (.iaload, 1) := by decide +kernel
theorem dL_law_750 : decode cL_law 750 = .ok (.invokevirtual 105, 3) := by decide +kernel
theorem dL_law_753 : decode cL_law 753 = .ok (.if_icmp .eq 338, 3) := by decide +kernel
theorem dL_law_756 : decode cL_law 756 = .ok (.iconst 0, 1) := by decide +kernel
theorem dL_law_757 : decode cL_law 757 = .ok (.ireturn, 1) := by decide +kernel
theorem dL_law_758 : decode cL_law 758 = .ok (.aload_n 1, 1) := by decide +kernel
theorem dL_law_759 : decode cL_law 759 = .ok (.aload_n 0, 1) := by decide +kernel
theorem dL_law_760 : decode cL_law 760 = .ok (.iload_n 3, 1) := by decide +kernel
theorem dL_law_761 : decode cL_law 761 = .ok (.iconst 1, 1) := by decide +kernel
theorem dL_law_762 : decode cL_law 762 = .ok (.iadd, 1) := by decide +kernel
theorem dL_law_763 : decode cL_law 763 = .ok (.iaload, 1) := by decide +kernel
theorem dL_law_764 : decode cL_law 764 = .ok (.invokevirtual 106, 3) := by decide +kernel
theorem dL_law_767 : decode cL_law 767 = .ok (.aload_n 2, 1) := by decide +kernel
theorem dL_law_768 : decode cL_law 768 = .ok (.aload_n 0, 1) := by decide +kernel
theorem dL_law_769 : decode cL_law 769 = .ok (.iload_n 3, 1) := by decide +kernel
theorem dL_law_770 : decode cL_law 770 = .ok (.iconst 1, 1) := by decide +kernel
theorem dL_law_771 : decode cL_law 771 = .ok (.iadd, 1) := by decide +kernel
theorem dL_law_772 : decode cL_law 772 = .ok (.iaload, 1) := by decide +kernel
theorem dL_law_773 : decode cL_law 773 = .ok (.invokevirtual 110, 3) := by decide +kernel
theorem dL_law_776 : decode cL_law 776 = .ok (.lcmp, 1) := by decide +kernel
theorem dL_law_777 : decode cL_law 777 = .ok (.ifCond .eq 314, 3) := by decide +kernel
theorem dL_law_780 : decode cL_law 780 = .ok (.iconst 0, 1) := by decide +kernel
theorem dL_law_781 : decode cL_law 781 = .ok (.ireturn, 1) := by decide +kernel
theorem dL_law_782 : decode cL_law 782 = .ok (.aload_n 1, 1) := by decide +kernel
theorem dL_law_783 : decode cL_law 783 = .ok (.aload_n 0, 1) := by decide +kernel
theorem dL_law_784 : decode cL_law 784 = .ok (.iload_n 3, 1) := by decide +kernel
theorem dL_law_785 : decode cL_law 785 = .ok (.iconst 1, 1) := by decide +kernel
theorem dL_law_786 : decode cL_law 786 = .ok (.iadd, 1) := by decide +kernel
theorem dL_law_787 : decode cL_law 787 = .ok (.iaload, 1) := by decide +kernel
theorem dL_law_788 : decode cL_law 788 = .ok (.invokevirtual 111, 3) := by decide +kernel
theorem dL_law_791 : decode cL_law 791 = .ok (.aload_n 2, 1) := by decide +kernel
theorem dL_law_792 : decode cL_law 792 = .ok (.aload_n 0, 1) := by decide +kernel
theorem dL_law_793 : decode cL_law 793 = .ok (.iload_n 3, 1) := by decide +kernel
theorem dL_law_794 : decode cL_law 794 = .ok (.iconst 1, 1) := by decide +kernel
theorem dL_law_795 : decode cL_law 795 = .ok (.iadd, 1) := by decide +kernel
theorem dL_law_796 : decode cL_law 796 = .ok (.iaload, 1) := by decide +kernel
theorem dL_law_797 : decode cL_law 797 = .ok (.invokevirtual 114, 3) := by decide +kernel
theorem dL_law_800 : decode cL_law 800 = .ok (.if_icmp .eq 291, 3) := by decide +kernel
theorem dL_law_803 : decode cL_law 803 = .ok (.iconst 0, 1) := by decide +kernel
theorem dL_law_804 : decode cL_law 804 = .ok (.ireturn, 1) := by decide +kernel
theorem dL_law_805 : decode cL_law 805 = .ok (.aload_n 1, 1) := by decide +kernel
theorem dL_law_806 : decode cL_law 806 = .ok (.aload_n 0, 1) := by decide +kernel
theorem dL_law_807 : decode cL_law 807 = .ok (.iload_n 3, 1) := by decide +kernel
theorem dL_law_808 : decode cL_law 808 = .ok (.iconst 1, 1) := by decide +kernel
theorem dL_law_809 : decode cL_law 809 = .ok (.iadd, 1) := by decide +kernel
theorem dL_law_810 : decode cL_law 810 = .ok (.iaload, 1) := by decide +kernel
theorem dL_law_811 : decode cL_law 811 = .ok (.invokevirtual 115, 3) := by decide +kernel
theorem dL_law_814 : decode cL_law 814 = .ok (.aload_n 2, 1) := by decide +kernel
theorem dL_law_815 : decode cL_law 815 = .ok (.aload_n 0, 1) := by decide +kernel
theorem dL_law_816 : decode cL_law 816 = .ok (.iload_n 3, 1) := by decide +kernel
theorem dL_law_817 : decode cL_law 817 = .ok (.iconst 1, 1) := by decide +kernel
theorem dL_law_818 : decode cL_law 818 = .ok (.iadd, 1) := by decide +kernel
theorem dL_law_819 : decode cL_law 819 = .ok (.iaload, 1) := by decide +kernel
theorem dL_law_820 : decode cL_law 820 = .ok (.invokevirtual 118, 3) := by decide +kernel
theorem dL_law_823 : decode cL_law 823 = .ok (.if_icmp .eq 268, 3) := by decide +kernel
theorem dL_law_826 : decode cL_law 826 = .ok (.iconst 0, 1) := by decide +kernel
theorem dL_law_827 : decode cL_law 827 = .ok (.ireturn, 1) := by decide +kernel
theorem dL_law_828 : decode cL_law 828 = .ok (.aload_n 1, 1) := by decide +kernel
theorem dL_law_829 : decode cL_law 829 = .ok (.aload_n 0, 1) := by decide +kernel
theorem dL_law_830 : decode cL_law 830 = .ok (.iload_n 3, 1) := by decide +kernel
theorem dL_law_831 : decode cL_law 831 = .ok (.iconst 1, 1) := by decide +kernel
theorem dL_law_832 : decode cL_law 832 = .ok (.iadd, 1) := by decide +kernel
theorem dL_law_833 : decode cL_law 833 = .ok (.iaload, 1) := by decide +kernel
theorem dL_law_834 : decode cL_law 834 = .ok (.invokevirtual 119, 3) := by decide +kernel
theorem dL_law_837 : decode cL_law 837 = .ok (.aload_n 2, 1) := by decide +kernel
theorem dL_law_838 : decode cL_law 838 = .ok (.aload_n 0, 1) := by decide +kernel
theorem dL_law_839 : decode cL_law 839 = .ok (.iload_n 3, 1) := by decide +kernel
theorem dL_law_840 : decode cL_law 840 = .ok (.iconst 1, 1) := by decide +kernel
theorem dL_law_841 : decode cL_law 841 = .ok (.iadd, 1) := by decide +kernel
theorem dL_law_842 : decode cL_law 842 = .ok (.iaload, 1) := by decide +kernel
theorem dL_law_843 : decode cL_law 843 = .ok (.invokevirtual 122, 3) := by decide +kernel
theorem dL_law_846 : decode cL_law 846 = .ok (.if_icmp .eq 245, 3) := by decide +kernel
theorem dL_law_849 : decode cL_law 849 = .ok (.iconst 0, 1) := by decide +kernel
theorem dL_law_850 : decode cL_law 850 = .ok (.ireturn, 1) := by decide +kernel
theorem dL_law_851 : decode cL_law 851 = .ok (.aload_n 1, 1) := by decide +kernel
theorem dL_law_852 : decode cL_law 852 = .ok (.aload_n 0, 1) := by decide +kernel
theorem dL_law_853 : decode cL_law 853 = .ok (.iload_n 3, 1) := by decide +kernel
theorem dL_law_854 : decode cL_law 854 = .ok (.iconst 1, 1) := by decide +kernel
theorem dL_law_855 : decode cL_law 855 = .ok (.iadd, 1) := by decide +kernel
theorem dL_law_856 : decode cL_law 856 = .ok (.iaload, 1) := by decide +kernel
theorem dL_law_857 : decode cL_law 857 = .ok (.invokevirtual 123, 3) := by decide +kernel
theorem dL_law_860 : decode cL_law 860 = .ok (.aload_n 2, 1) := by decide +kernel
theorem dL_law_861 : decode cL_law 861 = .ok (.aload_n 0, 1) := by decide +kernel
theorem dL_law_862 : decode cL_law 862 = .ok (.iload_n 3, 1) := by decide +kernel
theorem dL_law_863 : decode cL_law 863 = .ok (.iconst 1, 1) := by decide +kernel
theorem dL_law_864 : decode cL_law 864 = .ok (.iadd, 1) := by decide +kernel
theorem dL_law_865 : decode cL_law 865 = .ok (.iaload, 1) := by decide +kernel
theorem dL_law_866 : decode cL_law 866 = .ok (.invokevirtual 126, 3) := by decide +kernel
theorem dL_law_869 : decode cL_law 869 = .ok (.if_icmp .eq 222, 3) := by decide +kernel
theorem dL_law_872 : decode cL_law 872 = .ok (.iconst 0, 1) := by decide +kernel
theorem dL_law_873 : decode cL_law 873 = .ok (.ireturn, 1) := by decide +kernel
theorem dL_law_874 : decode cL_law 874 = .ok (.aload_n 1, 1) := by decide +kernel
theorem dL_law_875 : decode cL_law 875 = .ok (.aload_n 0, 1) := by decide +kernel
theorem dL_law_876 : decode cL_law 876 = .ok (.iload_n 3, 1) := by decide +kernel
theorem dL_law_877 : decode cL_law 877 = .ok (.iconst 1, 1) := by decide +kernel
theorem dL_law_878 : decode cL_law 878 = .ok (.iadd, 1) := by decide +kernel
theorem dL_law_879 : decode cL_law 879 = .ok (.iaload, 1) := by decide +kernel
theorem dL_law_880 : decode cL_law 880 = .ok (.invokevirtual 127, 3) := by decide +kernel
theorem dL_law_883 : decode cL_law 883 = .ok (.aload_n 2, 1) := by decide +kernel
theorem dL_law_884 : decode cL_law 884 = .ok (.aload_n 0, 1) := by decide +kernel
theorem dL_law_885 : decode cL_law 885 = .ok (.iload_n 3, 1) := by decide +kernel
theorem dL_law_886 : decode cL_law 886 = .ok (.iconst 1, 1) := by decide +kernel
theorem dL_law_887 : decode cL_law 887 = .ok (.iadd, 1) := by decide +kernel
theorem dL_law_888 : decode cL_law 888 = .ok (.iaload, 1) := by decide +kernel
theorem dL_law_889 : decode cL_law 889 = .ok (.invokevirtual 130, 3) := by decide +kernel
theorem dL_law_892 : decode cL_law 892 = .ok (.if_icmp .eq 199, 3) := by decide +kernel
theorem dL_law_895 : decode cL_law 895 = .ok (.iconst 0, 1) := by decide +kernel
theorem dL_law_896 : decode cL_law 896 = .ok (.ireturn, 1) := by decide +kernel
theorem dL_law_897 : decode cL_law 897 = .ok (.aload_n 1, 1) := by decide +kernel
theorem dL_law_898 : decode cL_law 898 = .ok (.aload_n 0, 1) := by decide +kernel
theorem dL_law_899 : decode cL_law 899 = .ok (.iload_n 3, 1) := by decide +kernel
theorem dL_law_900 : decode cL_law 900 = .ok (.iconst 1, 1) := by decide +kernel
theorem dL_law_901 : decode cL_law 901 = .ok (.iadd, 1) := by decide +kernel
theorem dL_law_902 : decode cL_law 902 = .ok (.iaload, 1) := by decide +kernel
theorem dL_law_903 : decode cL_law 903 = .ok (.aload_n 0, 1) := by decide +kernel
theorem dL_law_904 : decode cL_law 904 = .ok (.iload_n 3, 1) := by decide +kernel
theorem dL_law_905 : decode cL_law 905 = .ok (.iconst 2, 1) := by decide +kernel
theorem dL_law_906 : decode cL_law 906 = .ok (.iadd, 1) := by decide +kernel
theorem dL_law_907 : decode cL_law 907 = .ok (.iaload, 1) := by decide +kernel
theorem dL_law_908 : decode cL_law 908 = .ok (.invokevirtual 131, 3) := by decide +kernel
theorem dL_law_911 : decode cL_law 911 = .ok (.aload_n 2, 1) := by decide +kernel
theorem dL_law_912 : decode cL_law 912 = .ok (.aload_n 0, 1) := by decide +kernel
theorem dL_law_913 : decode cL_law 913 = .ok (.iload_n 3, 1) := by decide +kernel
theorem dL_law_914 : decode cL_law 914 = .ok (.iconst 1, 1) := by decide +kernel
theorem dL_law_915 : decode cL_law 915 = .ok (.iadd, 1) := by decide +kernel
theorem dL_law_916 : decode cL_law 916 = .ok (.iaload, 1) := by decide +kernel
theorem dL_law_917 : decode cL_law 917 = .ok (.aload_n 0, 1) := by decide +kernel
theorem dL_law_918 : decode cL_law 918 = .ok (.iload_n 3, 1) := by decide +kernel
theorem dL_law_919 : decode cL_law 919 = .ok (.iconst 2, 1) := by decide +kernel
theorem dL_law_920 : decode cL_law 920 = .ok (.iadd, 1) := by decide +kernel
theorem dL_law_921 : decode cL_law 921 = .ok (.iaload, 1) := by decide +kernel
theorem dL_law_922 : decode cL_law 922 = .ok (.invokevirtual 134, 3) := by decide +kernel
theorem dL_law_925 : decode cL_law 925 = .ok (.if_icmp .eq 166, 3) := by decide +kernel
theorem dL_law_928 : decode cL_law 928 = .ok (.iconst 0, 1) := by decide +kernel
theorem dL_law_929 : decode cL_law 929 = .ok (.ireturn, 1) := by decide +kernel
theorem dL_law_930 : decode cL_law 930 = .ok (.aload_n 1, 1) := by decide +kernel
theorem dL_law_931 : decode cL_law 931 = .ok (.aload_n 0, 1) := by decide +kernel
theorem dL_law_932 : decode cL_law 932 = .ok (.iload_n 3, 1) := by decide +kernel
theorem dL_law_933 : decode cL_law 933 = .ok (.iconst 1, 1) := by decide +kernel
theorem dL_law_934 : decode cL_law 934 = .ok (.iadd, 1) := by decide +kernel
theorem dL_law_935 : decode cL_law 935 = .ok (.iaload, 1) := by decide +kernel
theorem dL_law_936 : decode cL_law 936 = .ok (.invokevirtual 135, 3) := by decide +kernel
theorem dL_law_939 : decode cL_law 939 = .ok (.aload_n 2, 1) := by decide +kernel
theorem dL_law_940 : decode cL_law 940 = .ok (.aload_n 0, 1) := by decide +kernel
theorem dL_law_941 : decode cL_law 941 = .ok (.iload_n 3, 1) := by decide +kernel
theorem dL_law_942 : decode cL_law 942 = .ok (.iconst 1, 1) := by decide +kernel
theorem dL_law_943 : decode cL_law 943 = .ok (.iadd, 1) := by decide +kernel
theorem dL_law_944 : decode cL_law 944 = .ok (.iaload, 1) := by decide +kernel
theorem dL_law_945 : decode cL_law 945 = .ok (.invokevirtual 138, 3) := by decide +kernel
theorem dL_law_948 : decode cL_law 948 = .ok (.if_icmp .eq 143, 3) := by decide +kernel
theorem dL_law_951 : decode cL_law 951 = .ok (.iconst 0, 1) := by decide +kernel
theorem dL_law_952 : decode cL_law 952 = .ok (.ireturn, 1) := by decide +kernel
theorem dL_law_953 : decode cL_law 953 = .ok (.aload_n 1, 1) := by decide +kernel
theorem dL_law_954 : decode cL_law 954 = .ok (.aload_n 0, 1) := by decide +kernel
theorem dL_law_955 : decode cL_law 955 = .ok (.iload_n 3, 1) := by decide +kernel
theorem dL_law_956 : decode cL_law 956 = .ok (.iconst 1, 1) := by decide +kernel
theorem dL_law_957 : decode cL_law 957 = .ok (.iadd, 1) := by decide +kernel
theorem dL_law_958 : decode cL_law 958 = .ok (.iaload, 1) := by decide +kernel
theorem dL_law_959 : decode cL_law 959 = .ok (.aload_n 0, 1) := by decide +kernel
theorem dL_law_960 : decode cL_law 960 = .ok (.iload_n 3, 1) := by decide +kernel
theorem dL_law_961 : decode cL_law 961 = .ok (.iconst 2, 1) := by decide +kernel
theorem dL_law_962 : decode cL_law 962 = .ok (.iadd, 1) := by decide +kernel
theorem dL_law_963 : decode cL_law 963 = .ok (.iaload, 1) := by decide +kernel
theorem dL_law_964 : decode cL_law 964 = .ok (.invokevirtual 139, 3) := by decide +kernel
theorem dL_law_967 : decode cL_law 967 = .ok (.aload_n 2, 1) := by decide +kernel
theorem dL_law_968 : decode cL_law 968 = .ok (.aload_n 0, 1) := by decide +kernel
theorem dL_law_969 : decode cL_law 969 = .ok (.iload_n 3, 1) := by decide +kernel
theorem dL_law_970 : decode cL_law 970 = .ok (.iconst 1, 1) := by decide +kernel
theorem dL_law_971 : decode cL_law 971 = .ok (.iadd, 1) := by decide +kernel
theorem dL_law_972 : decode cL_law 972 = .ok (.iaload, 1) := by decide +kernel
theorem dL_law_973 : decode cL_law 973 = .ok (.aload_n 0, 1) := by decide +kernel
theorem dL_law_974 : decode cL_law 974 = .ok (.iload_n 3, 1) := by decide +kernel
theorem dL_law_975 : decode cL_law 975 = .ok (.iconst 2, 1) := by decide +kernel
theorem dL_law_976 : decode cL_law 976 = .ok (.iadd, 1) := by decide +kernel
theorem dL_law_977 : decode cL_law 977 = .ok (.iaload, 1) := by decide +kernel
theorem dL_law_978 : decode cL_law 978 = .ok (.invokevirtual 142, 3) := by decide +kernel
theorem dL_law_981 : decode cL_law 981 = .ok (.if_icmp .eq 110, 3) := by decide +kernel
theorem dL_law_984 : decode cL_law 984 = .ok (.iconst 0, 1) := by decide +kernel
theorem dL_law_985 : decode cL_law 985 = .ok (.ireturn, 1) := by decide +kernel
theorem dL_law_986 : decode cL_law 986 = .ok (.aload_n 1, 1) := by decide +kernel
theorem dL_law_987 : decode cL_law 987 = .ok (.aload_n 0, 1) := by decide +kernel
theorem dL_law_988 : decode cL_law 988 = .ok (.iload_n 3, 1) := by decide +kernel
theorem dL_law_989 : decode cL_law 989 = .ok (.iconst 1, 1) := by decide +kernel
theorem dL_law_990 : decode cL_law 990 = .ok (.iadd, 1) := by decide +kernel
theorem dL_law_991 : decode cL_law 991 = .ok (.iaload, 1) := by decide +kernel
theorem dL_law_992 : decode cL_law 992 = .ok (.invokevirtual 143, 3) := by decide +kernel
theorem dL_law_995 : decode cL_law 995 = .ok (.aload_n 2, 1) := by decide +kernel
theorem dL_law_996 : decode cL_law 996 = .ok (.aload_n 0, 1) := by decide +kernel
theorem dL_law_997 : decode cL_law 997 = .ok (.iload_n 3, 1) := by decide +kernel
theorem dL_law_998 : decode cL_law 998 = .ok (.iconst 1, 1) := by decide +kernel
theorem dL_law_999 : decode cL_law 999 = .ok (.iadd, 1) := by decide +kernel
theorem dL_law_1000 : decode cL_law 1000 = .ok (.iaload, 1) := by decide +kernel
theorem dL_law_1001 : decode cL_law 1001 = .ok (.invokevirtual 146, 3) := by decide +kernel
theorem dL_law_1004 : decode cL_law 1004 = .ok (.if_icmp .eq 87, 3) := by decide +kernel
theorem dL_law_1007 : decode cL_law 1007 = .ok (.iconst 0, 1) := by decide +kernel
theorem dL_law_1008 : decode cL_law 1008 = .ok (.ireturn, 1) := by decide +kernel
theorem dL_law_1009 : decode cL_law 1009 = .ok (.aload_n 1, 1) := by decide +kernel
theorem dL_law_1010 : decode cL_law 1010 = .ok (.aload_n 0, 1) := by decide +kernel
theorem dL_law_1011 : decode cL_law 1011 = .ok (.iload_n 3, 1) := by decide +kernel
theorem dL_law_1012 : decode cL_law 1012 = .ok (.iconst 1, 1) := by decide +kernel
theorem dL_law_1013 : decode cL_law 1013 = .ok (.iadd, 1) := by decide +kernel
theorem dL_law_1014 : decode cL_law 1014 = .ok (.iaload, 1) := by decide +kernel
theorem dL_law_1015 : decode cL_law 1015 = .ok (.invokevirtual 147, 3) := by decide +kernel
theorem dL_law_1018 : decode cL_law 1018 = .ok (.aload_n 2, 1) := by decide +kernel
theorem dL_law_1019 : decode cL_law 1019 = .ok (.aload_n 0, 1) := by decide +kernel
theorem dL_law_1020 : decode cL_law 1020 = .ok (.iload_n 3, 1) := by decide +kernel
theorem dL_law_1021 : decode cL_law 1021 = .ok (.iconst 1, 1) := by decide +kernel
theorem dL_law_1022 : decode cL_law 1022 = .ok (.iadd, 1) := by decide +kernel
theorem dL_law_1023 : decode cL_law 1023 = .ok (.iaload, 1) := by decide +kernel
theorem dL_law_1024 : decode cL_law 1024 = .ok (.invokevirtual 150, 3) := by decide +kernel
theorem dL_law_1027 : decode cL_law 1027 = .ok (.if_icmp .eq 64, 3) := by decide +kernel
theorem dL_law_1030 : decode cL_law 1030 = .ok (.iconst 0, 1) := by decide +kernel
theorem dL_law_1031 : decode cL_law 1031 = .ok (.ireturn, 1) := by decide +kernel
theorem dL_law_1032 : decode cL_law 1032 = .ok (.aload_n 1, 1) := by decide +kernel
theorem dL_law_1033 : decode cL_law 1033 = .ok (.aload_n 0, 1) := by decide +kernel
theorem dL_law_1034 : decode cL_law 1034 = .ok (.iload_n 3, 1) := by decide +kernel
theorem dL_law_1035 : decode cL_law 1035 = .ok (.iconst 1, 1) := by decide +kernel
theorem dL_law_1036 : decode cL_law 1036 = .ok (.iadd, 1) := by decide +kernel
theorem dL_law_1037 : decode cL_law 1037 = .ok (.iaload, 1) := by decide +kernel
theorem dL_law_1038 : decode cL_law 1038 = .ok (.invokevirtual 151, 3) := by decide +kernel
theorem dL_law_1041 : decode cL_law 1041 = .ok (.aload_n 2, 1) := by decide +kernel
theorem dL_law_1042 : decode cL_law 1042 = .ok (.aload_n 0, 1) := by decide +kernel
theorem dL_law_1043 : decode cL_law 1043 = .ok (.iload_n 3, 1) := by decide +kernel
theorem dL_law_1044 : decode cL_law 1044 = .ok (.iconst 1, 1) := by decide +kernel
theorem dL_law_1045 : decode cL_law 1045 = .ok (.iadd, 1) := by decide +kernel
theorem dL_law_1046 : decode cL_law 1046 = .ok (.iaload, 1) := by decide +kernel
theorem dL_law_1047 : decode cL_law 1047 = .ok (.invokevirtual 154, 3) := by decide +kernel
theorem dL_law_1050 : decode cL_law 1050 = .ok (.if_icmp .eq 41, 3) := by decide +kernel
theorem dL_law_1053 : decode cL_law 1053 = .ok (.iconst 0, 1) := by decide +kernel
theorem dL_law_1054 : decode cL_law 1054 = .ok (.ireturn, 1) := by decide +kernel
theorem dL_law_1055 : decode cL_law 1055 = .ok (.aload_n 1, 1) := by decide +kernel
theorem dL_law_1056 : decode cL_law 1056 = .ok (.aload_n 0, 1) := by decide +kernel
theorem dL_law_1057 : decode cL_law 1057 = .ok (.iload_n 3, 1) := by decide +kernel
theorem dL_law_1058 : decode cL_law 1058 = .ok (.iconst 1, 1) := by decide +kernel
theorem dL_law_1059 : decode cL_law 1059 = .ok (.iadd, 1) := by decide +kernel
theorem dL_law_1060 : decode cL_law 1060 = .ok (.iaload, 1) := by decide +kernel
theorem dL_law_1061 : decode cL_law 1061 = .ok (.invokevirtual 155, 3) := by decide +kernel
theorem dL_law_1064 : decode cL_law 1064 = .ok (.aload_n 2, 1) := by decide +kernel
theorem dL_law_1065 : decode cL_law 1065 = .ok (.aload_n 0, 1) := by decide +kernel
theorem dL_law_1066 : decode cL_law 1066 = .ok (.iload_n 3, 1) := by decide +kernel
theorem dL_law_1067 : decode cL_law 1067 = .ok (.iconst 1, 1) := by decide +kernel
theorem dL_law_1068 : decode cL_law 1068 = .ok (.iadd, 1) := by decide +kernel
theorem dL_law_1069 : decode cL_law 1069 = .ok (.iaload, 1) := by decide +kernel
theorem dL_law_1070 : decode cL_law 1070 = .ok (.invokevirtual 158, 3) := by decide +kernel
theorem dL_law_1073 : decode cL_law 1073 = .ok (.if_icmp .eq 18, 3) := by decide +kernel
theorem dL_law_1076 : decode cL_law 1076 = .ok (.iconst 0, 1) := by decide +kernel
theorem dL_law_1077 : decode cL_law 1077 = .ok (.ireturn, 1) := by decide +kernel
theorem dL_law_1078 : decode cL_law 1078 = .ok (.aload_n 1, 1) := by decide +kernel
theorem dL_law_1079 : decode cL_law 1079 = .ok (.invokevirtual 159, 3) := by decide +kernel
theorem dL_law_1082 : decode cL_law 1082 = .ok (.aload_n 2, 1) := by decide +kernel
theorem dL_law_1083 : decode cL_law 1083 = .ok (.invokevirtual 162, 3) := by decide +kernel
theorem dL_law_1086 : decode cL_law 1086 = .ok (.if_icmp .eq 5, 3) := by decide +kernel
theorem dL_law_1089 : decode cL_law 1089 = .ok (.iconst 0, 1) := by decide +kernel
theorem dL_law_1090 : decode cL_law 1090 = .ok (.ireturn, 1) := by decide +kernel
theorem dL_law_1091 : decode cL_law 1091 = .ok (.iinc 3 6, 3) := by decide +kernel
theorem dL_law_1094 : decode cL_law 1094 = .ok (.goto (-1076), 3) := by decide +kernel
theorem dL_law_1097 : decode cL_law 1097 = .ok (.iconst 1, 1) := by decide +kernel
theorem dL_law_1098 : decode cL_law 1098 = .ok (.ireturn, 1) := by decide +kernel
theorem ml_RL_101 : ML RL 101 yX11_last cX11_last 6 (some .int) 1 := ⟨tb_mem 1824 (by decide +kernel) (by decide +kernel), tb_mem 131 (by decide +kernel) (by decide +kernel), tb_mem 1827 (by decide +kernel) (by decide +kernel), by decide +kernel⟩
theorem mv_X11_last : yX11_last.cls = clC 11 ∧ Cond.instanceMethod yX11_last ∈ Tb ∧ Cond.selects (clC 11) yX11_last yX11_last ∈ Tb := ⟨rfl, tb_mem 1825 (by decide +kernel) (by decide +kernel), tb_mem 1826 (by decide +kernel) (by decide +kernel)⟩
theorem ml_RL_102 : ML RL 102 yX10_cheap cX10_cheap 4 (some .int) 2 := ⟨tb_mem 1186 (by decide +kernel) (by decide +kernel), tb_mem 120 (by decide +kernel) (by decide +kernel), tb_mem 1189 (by decide +kernel) (by decide +kernel), by decide +kernel⟩
theorem mv_X10_cheap : yX10_cheap.cls = clC 10 ∧ Cond.instanceMethod yX10_cheap ∈ Tb ∧ Cond.selects (clC 10) yX10_cheap yX10_cheap ∈ Tb := ⟨rfl, tb_mem 1187 (by decide +kernel) (by decide +kernel), tb_mem 1188 (by decide +kernel) (by decide +kernel)⟩
theorem ml_RL_105 : ML RL 105 yX11_cheap cX11_cheap 8 (some .int) 2 := ⟨tb_mem 1864 (by decide +kernel) (by decide +kernel), tb_mem 131 (by decide +kernel) (by decide +kernel), tb_mem 1867 (by decide +kernel) (by decide +kernel), by decide +kernel⟩
theorem mv_X11_cheap : yX11_cheap.cls = clC 11 ∧ Cond.instanceMethod yX11_cheap ∈ Tb ∧ Cond.selects (clC 11) yX11_cheap yX11_cheap ∈ Tb := ⟨rfl, tb_mem 1865 (by decide +kernel) (by decide +kernel), tb_mem 1866 (by decide +kernel) (by decide +kernel)⟩
theorem ml_RL_106 : ML RL 106 yX10_ways cX10_ways 2 (some .long) 1 := ⟨tb_mem 1199 (by decide +kernel) (by decide +kernel), tb_mem 120 (by decide +kernel) (by decide +kernel), tb_mem 1202 (by decide +kernel) (by decide +kernel), by decide +kernel⟩
theorem mv_X10_ways : yX10_ways.cls = clC 10 ∧ Cond.instanceMethod yX10_ways ∈ Tb ∧ Cond.selects (clC 10) yX10_ways yX10_ways ∈ Tb := ⟨rfl, tb_mem 1200 (by decide +kernel) (by decide +kernel), tb_mem 1201 (by decide +kernel) (by decide +kernel)⟩
theorem ml_RL_110 : ML RL 110 yX11_ways cX11_ways 3 (some .long) 1 := ⟨tb_mem 1876 (by decide +kernel) (by decide +kernel), tb_mem 131 (by decide +kernel) (by decide +kernel), tb_mem 1879 (by decide +kernel) (by decide +kernel), by decide +kernel⟩
theorem mv_X11_ways : yX11_ways.cls = clC 11 ∧ Cond.instanceMethod yX11_ways ∈ Tb ∧ Cond.selects (clC 11) yX11_ways yX11_ways ∈ Tb := ⟨rfl, tb_mem 1877 (by decide +kernel) (by decide +kernel), tb_mem 1878 (by decide +kernel) (by decide +kernel)⟩
theorem ml_RL_111 : ML RL 111 yX10_late cX10_late 2 (some .int) 1 := ⟨tb_mem 1220 (by decide +kernel) (by decide +kernel), tb_mem 120 (by decide +kernel) (by decide +kernel), tb_mem 1223 (by decide +kernel) (by decide +kernel), by decide +kernel⟩
theorem mv_X10_late : yX10_late.cls = clC 10 ∧ Cond.instanceMethod yX10_late ∈ Tb ∧ Cond.selects (clC 10) yX10_late yX10_late ∈ Tb := ⟨rfl, tb_mem 1221 (by decide +kernel) (by decide +kernel), tb_mem 1222 (by decide +kernel) (by decide +kernel)⟩
theorem ml_RL_114 : ML RL 114 yX11_late cX11_late 7 (some .int) 1 := ⟨tb_mem 1884 (by decide +kernel) (by decide +kernel), tb_mem 131 (by decide +kernel) (by decide +kernel), tb_mem 1887 (by decide +kernel) (by decide +kernel), by decide +kernel⟩
theorem mv_X11_late : yX11_late.cls = clC 11 ∧ Cond.instanceMethod yX11_late ∈ Tb ∧ Cond.selects (clC 11) yX11_late yX11_late ∈ Tb := ⟨rfl, tb_mem 1885 (by decide +kernel) (by decide +kernel), tb_mem 1886 (by decide +kernel) (by decide +kernel)⟩
theorem ml_RL_115 : ML RL 115 yX10_swaps cX10_swaps 3 (some .int) 1 := ⟨tb_mem 1238 (by decide +kernel) (by decide +kernel), tb_mem 120 (by decide +kernel) (by decide +kernel), tb_mem 1241 (by decide +kernel) (by decide +kernel), by decide +kernel⟩
theorem mv_X10_swaps : yX10_swaps.cls = clC 10 ∧ Cond.instanceMethod yX10_swaps ∈ Tb ∧ Cond.selects (clC 10) yX10_swaps yX10_swaps ∈ Tb := ⟨rfl, tb_mem 1239 (by decide +kernel) (by decide +kernel), tb_mem 1240 (by decide +kernel) (by decide +kernel)⟩
theorem ml_RL_118 : ML RL 118 yX11_swaps cX11_swaps 7 (some .int) 1 := ⟨tb_mem 1888 (by decide +kernel) (by decide +kernel), tb_mem 131 (by decide +kernel) (by decide +kernel), tb_mem 1891 (by decide +kernel) (by decide +kernel), by decide +kernel⟩
theorem mv_X11_swaps : yX11_swaps.cls = clC 11 ∧ Cond.instanceMethod yX11_swaps ∈ Tb ∧ Cond.selects (clC 11) yX11_swaps yX11_swaps ∈ Tb := ⟨rfl, tb_mem 1889 (by decide +kernel) (by decide +kernel), tb_mem 1890 (by decide +kernel) (by decide +kernel)⟩
theorem ml_RL_119 : ML RL 119 yX10_crews cX10_crews 3 (some .int) 1 := ⟨tb_mem 1246 (by decide +kernel) (by decide +kernel), tb_mem 120 (by decide +kernel) (by decide +kernel), tb_mem 1249 (by decide +kernel) (by decide +kernel), by decide +kernel⟩
theorem mv_X10_crews : yX10_crews.cls = clC 10 ∧ Cond.instanceMethod yX10_crews ∈ Tb ∧ Cond.selects (clC 10) yX10_crews yX10_crews ∈ Tb := ⟨rfl, tb_mem 1247 (by decide +kernel) (by decide +kernel), tb_mem 1248 (by decide +kernel) (by decide +kernel)⟩
theorem ml_RL_122 : ML RL 122 yX11_crews cX11_crews 5 (some .int) 1 := ⟨tb_mem 1904 (by decide +kernel) (by decide +kernel), tb_mem 131 (by decide +kernel) (by decide +kernel), tb_mem 1907 (by decide +kernel) (by decide +kernel), by decide +kernel⟩
theorem mv_X11_crews : yX11_crews.cls = clC 11 ∧ Cond.instanceMethod yX11_crews ∈ Tb ∧ Cond.selects (clC 11) yX11_crews yX11_crews ∈ Tb := ⟨rfl, tb_mem 1905 (by decide +kernel) (by decide +kernel), tb_mem 1906 (by decide +kernel) (by decide +kernel)⟩
theorem ml_RL_123 : ML RL 123 yX10_share cX10_share 3 (some .int) 1 := ⟨tb_mem 1256 (by decide +kernel) (by decide +kernel), tb_mem 120 (by decide +kernel) (by decide +kernel), tb_mem 1259 (by decide +kernel) (by decide +kernel), by decide +kernel⟩
theorem mv_X10_share : yX10_share.cls = clC 10 ∧ Cond.instanceMethod yX10_share ∈ Tb ∧ Cond.selects (clC 10) yX10_share yX10_share ∈ Tb := ⟨rfl, tb_mem 1257 (by decide +kernel) (by decide +kernel), tb_mem 1258 (by decide +kernel) (by decide +kernel)⟩
theorem ml_RL_126 : ML RL 126 yX11_share cX11_share 4 (some .int) 1 := ⟨tb_mem 1908 (by decide +kernel) (by decide +kernel), tb_mem 131 (by decide +kernel) (by decide +kernel), tb_mem 1911 (by decide +kernel) (by decide +kernel), by decide +kernel⟩
theorem mv_X11_share : yX11_share.cls = clC 11 ∧ Cond.instanceMethod yX11_share ∈ Tb ∧ Cond.selects (clC 11) yX11_share yX11_share ∈ Tb := ⟨rfl, tb_mem 1909 (by decide +kernel) (by decide +kernel), tb_mem 1910 (by decide +kernel) (by decide +kernel)⟩
theorem ml_RL_127 : ML RL 127 yX10_harm cX10_harm 4 (some .int) 1 := ⟨tb_mem 1264 (by decide +kernel) (by decide +kernel), tb_mem 120 (by decide +kernel) (by decide +kernel), tb_mem 1267 (by decide +kernel) (by decide +kernel), by decide +kernel⟩
theorem mv_X10_harm : yX10_harm.cls = clC 10 ∧ Cond.instanceMethod yX10_harm ∈ Tb ∧ Cond.selects (clC 10) yX10_harm yX10_harm ∈ Tb := ⟨rfl, tb_mem 1265 (by decide +kernel) (by decide +kernel), tb_mem 1266 (by decide +kernel) (by decide +kernel)⟩
theorem ml_RL_13 : ML RL 13 yX10_person cX10_person 3 (some .int) 2 := ⟨tb_mem 603 (by decide +kernel) (by decide +kernel), tb_mem 120 (by decide +kernel) (by decide +kernel), tb_mem 606 (by decide +kernel) (by decide +kernel), by decide +kernel⟩
theorem mv_X10_person : yX10_person.cls = clC 10 ∧ Cond.instanceMethod yX10_person ∈ Tb ∧ Cond.selects (clC 10) yX10_person yX10_person ∈ Tb := ⟨rfl, tb_mem 604 (by decide +kernel) (by decide +kernel), tb_mem 605 (by decide +kernel) (by decide +kernel)⟩
theorem ml_RL_130 : ML RL 130 yX11_harm cX11_harm 4 (some .int) 1 := ⟨tb_mem 1912 (by decide +kernel) (by decide +kernel), tb_mem 131 (by decide +kernel) (by decide +kernel), tb_mem 1915 (by decide +kernel) (by decide +kernel), by decide +kernel⟩
theorem mv_X11_harm : yX11_harm.cls = clC 11 ∧ Cond.instanceMethod yX11_harm ∈ Tb ∧ Cond.selects (clC 11) yX11_harm yX11_harm ∈ Tb := ⟨rfl, tb_mem 1913 (by decide +kernel) (by decide +kernel), tb_mem 1914 (by decide +kernel) (by decide +kernel)⟩
theorem ml_RL_131 : ML RL 131 yX10_hush cX10_hush 5 (some .int) 2 := ⟨tb_mem 1270 (by decide +kernel) (by decide +kernel), tb_mem 120 (by decide +kernel) (by decide +kernel), tb_mem 1273 (by decide +kernel) (by decide +kernel), by decide +kernel⟩
theorem mv_X10_hush : yX10_hush.cls = clC 10 ∧ Cond.instanceMethod yX10_hush ∈ Tb ∧ Cond.selects (clC 10) yX10_hush yX10_hush ∈ Tb := ⟨rfl, tb_mem 1271 (by decide +kernel) (by decide +kernel), tb_mem 1272 (by decide +kernel) (by decide +kernel)⟩
theorem ml_RL_134 : ML RL 134 yX11_hush cX11_hush 7 (some .int) 2 := ⟨tb_mem 1916 (by decide +kernel) (by decide +kernel), tb_mem 131 (by decide +kernel) (by decide +kernel), tb_mem 1919 (by decide +kernel) (by decide +kernel), by decide +kernel⟩
theorem mv_X11_hush : yX11_hush.cls = clC 11 ∧ Cond.instanceMethod yX11_hush ∈ Tb ∧ Cond.selects (clC 11) yX11_hush yX11_hush ∈ Tb := ⟨rfl, tb_mem 1917 (by decide +kernel) (by decide +kernel), tb_mem 1918 (by decide +kernel) (by decide +kernel)⟩
theorem ml_RL_135 : ML RL 135 yX10_who cX10_who 5 (some .int) 1 := ⟨tb_mem 1287 (by decide +kernel) (by decide +kernel), tb_mem 120 (by decide +kernel) (by decide +kernel), tb_mem 1290 (by decide +kernel) (by decide +kernel), by decide +kernel⟩
theorem mv_X10_who : yX10_who.cls = clC 10 ∧ Cond.instanceMethod yX10_who ∈ Tb ∧ Cond.selects (clC 10) yX10_who yX10_who ∈ Tb := ⟨rfl, tb_mem 1288 (by decide +kernel) (by decide +kernel), tb_mem 1289 (by decide +kernel) (by decide +kernel)⟩
theorem ml_RL_138 : ML RL 138 yX11_who cX11_who 4 (some .int) 1 := ⟨tb_mem 1923 (by decide +kernel) (by decide +kernel), tb_mem 131 (by decide +kernel) (by decide +kernel), tb_mem 1926 (by decide +kernel) (by decide +kernel), by decide +kernel⟩
theorem mv_X11_who : yX11_who.cls = clC 11 ∧ Cond.instanceMethod yX11_who ∈ Tb ∧ Cond.selects (clC 11) yX11_who yX11_who ∈ Tb := ⟨rfl, tb_mem 1924 (by decide +kernel) (by decide +kernel), tb_mem 1925 (by decide +kernel) (by decide +kernel)⟩
theorem ml_RL_139 : ML RL 139 yX10_winter cX10_winter 3 (some .int) 2 := ⟨tb_mem 1291 (by decide +kernel) (by decide +kernel), tb_mem 120 (by decide +kernel) (by decide +kernel), tb_mem 1294 (by decide +kernel) (by decide +kernel), by decide +kernel⟩
theorem mv_X10_winter : yX10_winter.cls = clC 10 ∧ Cond.instanceMethod yX10_winter ∈ Tb ∧ Cond.selects (clC 10) yX10_winter yX10_winter ∈ Tb := ⟨rfl, tb_mem 1292 (by decide +kernel) (by decide +kernel), tb_mem 1293 (by decide +kernel) (by decide +kernel)⟩
theorem ml_RL_142 : ML RL 142 yX11_winter cX11_winter 8 (some .int) 2 := ⟨tb_mem 1947 (by decide +kernel) (by decide +kernel), tb_mem 131 (by decide +kernel) (by decide +kernel), tb_mem 1950 (by decide +kernel) (by decide +kernel), by decide +kernel⟩
theorem mv_X11_winter : yX11_winter.cls = clC 11 ∧ Cond.instanceMethod yX11_winter ∈ Tb ∧ Cond.selects (clC 11) yX11_winter yX11_winter ∈ Tb := ⟨rfl, tb_mem 1948 (by decide +kernel) (by decide +kernel), tb_mem 1949 (by decide +kernel) (by decide +kernel)⟩
theorem ml_RL_143 : ML RL 143 yX10_drawn cX10_drawn 2 (some .int) 1 := ⟨tb_mem 1302 (by decide +kernel) (by decide +kernel), tb_mem 120 (by decide +kernel) (by decide +kernel), tb_mem 1305 (by decide +kernel) (by decide +kernel), by decide +kernel⟩
theorem mv_X10_drawn : yX10_drawn.cls = clC 10 ∧ Cond.instanceMethod yX10_drawn ∈ Tb ∧ Cond.selects (clC 10) yX10_drawn yX10_drawn ∈ Tb := ⟨rfl, tb_mem 1303 (by decide +kernel) (by decide +kernel), tb_mem 1304 (by decide +kernel) (by decide +kernel)⟩
theorem ml_RL_146 : ML RL 146 yX11_drawn cX11_drawn 2 (some .int) 1 := ⟨tb_mem 1962 (by decide +kernel) (by decide +kernel), tb_mem 131 (by decide +kernel) (by decide +kernel), tb_mem 1965 (by decide +kernel) (by decide +kernel), by decide +kernel⟩
theorem mv_X11_drawn : yX11_drawn.cls = clC 11 ∧ Cond.instanceMethod yX11_drawn ∈ Tb ∧ Cond.selects (clC 11) yX11_drawn yX11_drawn ∈ Tb := ⟨rfl, tb_mem 1963 (by decide +kernel) (by decide +kernel), tb_mem 1964 (by decide +kernel) (by decide +kernel)⟩
theorem ml_RL_147 : ML RL 147 yX10_image cX10_image 2 (some .int) 1 := ⟨tb_mem 1306 (by decide +kernel) (by decide +kernel), tb_mem 120 (by decide +kernel) (by decide +kernel), tb_mem 1309 (by decide +kernel) (by decide +kernel), by decide +kernel⟩
theorem mv_X10_image : yX10_image.cls = clC 10 ∧ Cond.instanceMethod yX10_image ∈ Tb ∧ Cond.selects (clC 10) yX10_image yX10_image ∈ Tb := ⟨rfl, tb_mem 1307 (by decide +kernel) (by decide +kernel), tb_mem 1308 (by decide +kernel) (by decide +kernel)⟩
theorem ml_RL_150 : ML RL 150 yX11_image cX11_image 3 (some .int) 1 := ⟨tb_mem 1492 (by decide +kernel) (by decide +kernel), tb_mem 131 (by decide +kernel) (by decide +kernel), tb_mem 1495 (by decide +kernel) (by decide +kernel), by decide +kernel⟩
theorem mv_X11_image : yX11_image.cls = clC 11 ∧ Cond.instanceMethod yX11_image ∈ Tb ∧ Cond.selects (clC 11) yX11_image yX11_image ∈ Tb := ⟨rfl, tb_mem 1493 (by decide +kernel) (by decide +kernel), tb_mem 1494 (by decide +kernel) (by decide +kernel)⟩
theorem ml_RL_151 : ML RL 151 yX10_back cX10_back 3 (some .int) 1 := ⟨tb_mem 1310 (by decide +kernel) (by decide +kernel), tb_mem 120 (by decide +kernel) (by decide +kernel), tb_mem 1313 (by decide +kernel) (by decide +kernel), by decide +kernel⟩
theorem mv_X10_back : yX10_back.cls = clC 10 ∧ Cond.instanceMethod yX10_back ∈ Tb ∧ Cond.selects (clC 10) yX10_back yX10_back ∈ Tb := ⟨rfl, tb_mem 1311 (by decide +kernel) (by decide +kernel), tb_mem 1312 (by decide +kernel) (by decide +kernel)⟩
theorem ml_RL_154 : ML RL 154 yX11_back cX11_back 3 (some .int) 1 := ⟨tb_mem 1507 (by decide +kernel) (by decide +kernel), tb_mem 131 (by decide +kernel) (by decide +kernel), tb_mem 1510 (by decide +kernel) (by decide +kernel), by decide +kernel⟩
theorem mv_X11_back : yX11_back.cls = clC 11 ∧ Cond.instanceMethod yX11_back ∈ Tb ∧ Cond.selects (clC 11) yX11_back yX11_back ∈ Tb := ⟨rfl, tb_mem 1508 (by decide +kernel) (by decide +kernel), tb_mem 1509 (by decide +kernel) (by decide +kernel)⟩
theorem ml_RL_155 : ML RL 155 yX10_count cX10_count 2 (some .int) 1 := ⟨tb_mem 1314 (by decide +kernel) (by decide +kernel), tb_mem 120 (by decide +kernel) (by decide +kernel), tb_mem 1317 (by decide +kernel) (by decide +kernel), by decide +kernel⟩
theorem mv_X10_count : yX10_count.cls = clC 10 ∧ Cond.instanceMethod yX10_count ∈ Tb ∧ Cond.selects (clC 10) yX10_count yX10_count ∈ Tb := ⟨rfl, tb_mem 1315 (by decide +kernel) (by decide +kernel), tb_mem 1316 (by decide +kernel) (by decide +kernel)⟩
theorem ml_RL_158 : ML RL 158 yX11_count cX11_count 5 (some .int) 1 := ⟨tb_mem 1966 (by decide +kernel) (by decide +kernel), tb_mem 131 (by decide +kernel) (by decide +kernel), tb_mem 1969 (by decide +kernel) (by decide +kernel), by decide +kernel⟩
theorem mv_X11_count : yX11_count.cls = clC 11 ∧ Cond.instanceMethod yX11_count ∈ Tb ∧ Cond.selects (clC 11) yX11_count yX11_count ∈ Tb := ⟨rfl, tb_mem 1967 (by decide +kernel) (by decide +kernel), tb_mem 1968 (by decide +kernel) (by decide +kernel)⟩
theorem ml_RL_159 : ML RL 159 yX10_status cX10_status 1 (some .int) 0 := ⟨tb_mem 1323 (by decide +kernel) (by decide +kernel), tb_mem 120 (by decide +kernel) (by decide +kernel), tb_mem 1326 (by decide +kernel) (by decide +kernel), by decide +kernel⟩
theorem mv_X10_status : yX10_status.cls = clC 10 ∧ Cond.instanceMethod yX10_status ∈ Tb ∧ Cond.selects (clC 10) yX10_status yX10_status ∈ Tb := ⟨rfl, tb_mem 1324 (by decide +kernel) (by decide +kernel), tb_mem 1325 (by decide +kernel) (by decide +kernel)⟩
theorem ml_RL_162 : ML RL 162 yX11_status cX11_status 1 (some .int) 0 := ⟨tb_mem 1970 (by decide +kernel) (by decide +kernel), tb_mem 131 (by decide +kernel) (by decide +kernel), tb_mem 1973 (by decide +kernel) (by decide +kernel), by decide +kernel⟩
theorem mv_X11_status : yX11_status.cls = clC 11 ∧ Cond.instanceMethod yX11_status ∈ Tb ∧ Cond.selects (clC 11) yX11_status yX11_status ∈ Tb := ⟨rfl, tb_mem 1971 (by decide +kernel) (by decide +kernel), tb_mem 1972 (by decide +kernel) (by decide +kernel)⟩
theorem ml_RL_17 : ML RL 17 yX11_person cX11_person 3 (some .int) 2 := ⟨tb_mem 1515 (by decide +kernel) (by decide +kernel), tb_mem 131 (by decide +kernel) (by decide +kernel), tb_mem 1518 (by decide +kernel) (by decide +kernel), by decide +kernel⟩
theorem mv_X11_person : yX11_person.cls = clC 11 ∧ Cond.instanceMethod yX11_person ∈ Tb ∧ Cond.selects (clC 11) yX11_person yX11_person ∈ Tb := ⟨rfl, tb_mem 1516 (by decide +kernel) (by decide +kernel), tb_mem 1517 (by decide +kernel) (by decide +kernel)⟩
theorem ml_RL_18 : ML RL 18 yX10_hear cX10_hear 4 (some .int) 2 := ⟨tb_mem 626 (by decide +kernel) (by decide +kernel), tb_mem 120 (by decide +kernel) (by decide +kernel), tb_mem 629 (by decide +kernel) (by decide +kernel), by decide +kernel⟩
theorem mv_X10_hear : yX10_hear.cls = clC 10 ∧ Cond.instanceMethod yX10_hear ∈ Tb ∧ Cond.selects (clC 10) yX10_hear yX10_hear ∈ Tb := ⟨rfl, tb_mem 627 (by decide +kernel) (by decide +kernel), tb_mem 628 (by decide +kernel) (by decide +kernel)⟩
theorem ml_RL_21 : ML RL 21 yX11_hear cX11_hear 4 (some .int) 2 := ⟨tb_mem 1530 (by decide +kernel) (by decide +kernel), tb_mem 131 (by decide +kernel) (by decide +kernel), tb_mem 1533 (by decide +kernel) (by decide +kernel), by decide +kernel⟩
theorem mv_X11_hear : yX11_hear.cls = clC 11 ∧ Cond.instanceMethod yX11_hear ∈ Tb ∧ Cond.selects (clC 11) yX11_hear yX11_hear ∈ Tb := ⟨rfl, tb_mem 1531 (by decide +kernel) (by decide +kernel), tb_mem 1532 (by decide +kernel) (by decide +kernel)⟩
theorem ml_RL_22 : ML RL 22 yX10_of cX10_of 3 (some .int) 2 := ⟨tb_mem 634 (by decide +kernel) (by decide +kernel), tb_mem 120 (by decide +kernel) (by decide +kernel), tb_mem 637 (by decide +kernel) (by decide +kernel), by decide +kernel⟩
theorem mv_X10_of : yX10_of.cls = clC 10 ∧ Cond.instanceMethod yX10_of ∈ Tb ∧ Cond.selects (clC 10) yX10_of yX10_of ∈ Tb := ⟨rfl, tb_mem 635 (by decide +kernel) (by decide +kernel), tb_mem 636 (by decide +kernel) (by decide +kernel)⟩
theorem ml_RL_25 : ML RL 25 yX11_of cX11_of 3 (some .int) 2 := ⟨tb_mem 1538 (by decide +kernel) (by decide +kernel), tb_mem 131 (by decide +kernel) (by decide +kernel), tb_mem 1541 (by decide +kernel) (by decide +kernel), by decide +kernel⟩
theorem mv_X11_of : yX11_of.cls = clC 11 ∧ Cond.instanceMethod yX11_of ∈ Tb ∧ Cond.selects (clC 11) yX11_of yX11_of ∈ Tb := ⟨rfl, tb_mem 1539 (by decide +kernel) (by decide +kernel), tb_mem 1540 (by decide +kernel) (by decide +kernel)⟩
theorem ml_RL_26 : ML RL 26 yX10_talk cX10_talk 5 (some .int) 3 := ⟨tb_mem 642 (by decide +kernel) (by decide +kernel), tb_mem 120 (by decide +kernel) (by decide +kernel), tb_mem 645 (by decide +kernel) (by decide +kernel), by decide +kernel⟩
theorem mv_X10_talk : yX10_talk.cls = clC 10 ∧ Cond.instanceMethod yX10_talk ∈ Tb ∧ Cond.selects (clC 10) yX10_talk yX10_talk ∈ Tb := ⟨rfl, tb_mem 643 (by decide +kernel) (by decide +kernel), tb_mem 644 (by decide +kernel) (by decide +kernel)⟩
theorem ml_RL_30 : ML RL 30 yX11_talk cX11_talk 5 (some .int) 3 := ⟨tb_mem 1554 (by decide +kernel) (by decide +kernel), tb_mem 131 (by decide +kernel) (by decide +kernel), tb_mem 1557 (by decide +kernel) (by decide +kernel), by decide +kernel⟩
theorem mv_X11_talk : yX11_talk.cls = clC 11 ∧ Cond.instanceMethod yX11_talk ∈ Tb ∧ Cond.selects (clC 11) yX11_talk yX11_talk ∈ Tb := ⟨rfl, tb_mem 1555 (by decide +kernel) (by decide +kernel), tb_mem 1556 (by decide +kernel) (by decide +kernel)⟩
theorem ml_RL_31 : ML RL 31 yX10_fog cX10_fog 4 (some .int) 2 := ⟨tb_mem 646 (by decide +kernel) (by decide +kernel), tb_mem 120 (by decide +kernel) (by decide +kernel), tb_mem 649 (by decide +kernel) (by decide +kernel), by decide +kernel⟩
theorem mv_X10_fog : yX10_fog.cls = clC 10 ∧ Cond.instanceMethod yX10_fog ∈ Tb ∧ Cond.selects (clC 10) yX10_fog yX10_fog ∈ Tb := ⟨rfl, tb_mem 647 (by decide +kernel) (by decide +kernel), tb_mem 648 (by decide +kernel) (by decide +kernel)⟩
theorem ml_RL_34 : ML RL 34 yX11_fog cX11_fog 4 (some .int) 2 := ⟨tb_mem 1558 (by decide +kernel) (by decide +kernel), tb_mem 131 (by decide +kernel) (by decide +kernel), tb_mem 1561 (by decide +kernel) (by decide +kernel), by decide +kernel⟩
theorem mv_X11_fog : yX11_fog.cls = clC 11 ∧ Cond.instanceMethod yX11_fog ∈ Tb ∧ Cond.selects (clC 11) yX11_fog yX11_fog ∈ Tb := ⟨rfl, tb_mem 1559 (by decide +kernel) (by decide +kernel), tb_mem 1560 (by decide +kernel) (by decide +kernel)⟩
theorem ml_RL_35 : ML RL 35 yX10_terms cX10_terms 4 (some .int) 2 := ⟨tb_mem 650 (by decide +kernel) (by decide +kernel), tb_mem 120 (by decide +kernel) (by decide +kernel), tb_mem 653 (by decide +kernel) (by decide +kernel), by decide +kernel⟩
theorem mv_X10_terms : yX10_terms.cls = clC 10 ∧ Cond.instanceMethod yX10_terms ∈ Tb ∧ Cond.selects (clC 10) yX10_terms yX10_terms ∈ Tb := ⟨rfl, tb_mem 651 (by decide +kernel) (by decide +kernel), tb_mem 652 (by decide +kernel) (by decide +kernel)⟩
theorem ml_RL_38 : ML RL 38 yX11_terms cX11_terms 5 (some .int) 2 := ⟨tb_mem 1562 (by decide +kernel) (by decide +kernel), tb_mem 131 (by decide +kernel) (by decide +kernel), tb_mem 1565 (by decide +kernel) (by decide +kernel), by decide +kernel⟩
theorem mv_X11_terms : yX11_terms.cls = clC 11 ∧ Cond.instanceMethod yX11_terms ∈ Tb ∧ Cond.selects (clC 11) yX11_terms yX11_terms ∈ Tb := ⟨rfl, tb_mem 1563 (by decide +kernel) (by decide +kernel), tb_mem 1564 (by decide +kernel) (by decide +kernel)⟩
theorem ml_RL_39 : ML RL 39 yX10_feed cX10_feed 6 (some .int) 5 := ⟨tb_mem 661 (by decide +kernel) (by decide +kernel), tb_mem 120 (by decide +kernel) (by decide +kernel), tb_mem 664 (by decide +kernel) (by decide +kernel), by decide +kernel⟩
theorem mv_X10_feed : yX10_feed.cls = clC 10 ∧ Cond.instanceMethod yX10_feed ∈ Tb ∧ Cond.selects (clC 10) yX10_feed yX10_feed ∈ Tb := ⟨rfl, tb_mem 662 (by decide +kernel) (by decide +kernel), tb_mem 663 (by decide +kernel) (by decide +kernel)⟩
theorem ml_RL_43 : ML RL 43 yX11_feed cX11_feed 7 (some .int) 5 := ⟨tb_mem 1574 (by decide +kernel) (by decide +kernel), tb_mem 131 (by decide +kernel) (by decide +kernel), tb_mem 1577 (by decide +kernel) (by decide +kernel), by decide +kernel⟩
theorem mv_X11_feed : yX11_feed.cls = clC 11 ∧ Cond.instanceMethod yX11_feed ∈ Tb ∧ Cond.selects (clC 11) yX11_feed yX11_feed ∈ Tb := ⟨rfl, tb_mem 1575 (by decide +kernel) (by decide +kernel), tb_mem 1576 (by decide +kernel) (by decide +kernel)⟩
theorem ml_RL_44 : ML RL 44 yX10_end cX10_end 2 (some .int) 1 := ⟨tb_mem 669 (by decide +kernel) (by decide +kernel), tb_mem 120 (by decide +kernel) (by decide +kernel), tb_mem 672 (by decide +kernel) (by decide +kernel), by decide +kernel⟩
theorem mv_X10_end : yX10_end.cls = clC 10 ∧ Cond.instanceMethod yX10_end ∈ Tb ∧ Cond.selects (clC 10) yX10_end yX10_end ∈ Tb := ⟨rfl, tb_mem 670 (by decide +kernel) (by decide +kernel), tb_mem 671 (by decide +kernel) (by decide +kernel)⟩
theorem ml_RL_48 : ML RL 48 yX11_end cX11_end 2 (some .int) 1 := ⟨tb_mem 1578 (by decide +kernel) (by decide +kernel), tb_mem 131 (by decide +kernel) (by decide +kernel), tb_mem 1581 (by decide +kernel) (by decide +kernel), by decide +kernel⟩
theorem mv_X11_end : yX11_end.cls = clC 11 ∧ Cond.instanceMethod yX11_end ∈ Tb ∧ Cond.selects (clC 11) yX11_end yX11_end ∈ Tb := ⟨rfl, tb_mem 1579 (by decide +kernel) (by decide +kernel), tb_mem 1580 (by decide +kernel) (by decide +kernel)⟩
theorem ml_RL_49 : ML RL 49 yX10_row cX10_row 5 (some .int) 0 := ⟨tb_mem 673 (by decide +kernel) (by decide +kernel), tb_mem 120 (by decide +kernel) (by decide +kernel), tb_mem 676 (by decide +kernel) (by decide +kernel), by decide +kernel⟩
theorem mv_X10_row : yX10_row.cls = clC 10 ∧ Cond.instanceMethod yX10_row ∈ Tb ∧ Cond.selects (clC 10) yX10_row yX10_row ∈ Tb := ⟨rfl, tb_mem 674 (by decide +kernel) (by decide +kernel), tb_mem 675 (by decide +kernel) (by decide +kernel)⟩
theorem ml_RL_53 : ML RL 53 yX11_row cX11_row 5 (some .int) 0 := ⟨tb_mem 1566 (by decide +kernel) (by decide +kernel), tb_mem 131 (by decide +kernel) (by decide +kernel), tb_mem 1569 (by decide +kernel) (by decide +kernel), by decide +kernel⟩
theorem mv_X11_row : yX11_row.cls = clC 11 ∧ Cond.instanceMethod yX11_row ∈ Tb ∧ Cond.selects (clC 11) yX11_row yX11_row ∈ Tb := ⟨rfl, tb_mem 1567 (by decide +kernel) (by decide +kernel), tb_mem 1568 (by decide +kernel) (by decide +kernel)⟩
theorem ml_RL_54 : ML RL 54 yX10_salt cX10_salt 1 (some .int) 0 := ⟨tb_mem 681 (by decide +kernel) (by decide +kernel), tb_mem 120 (by decide +kernel) (by decide +kernel), tb_mem 684 (by decide +kernel) (by decide +kernel), by decide +kernel⟩
theorem mv_X10_salt : yX10_salt.cls = clC 10 ∧ Cond.instanceMethod yX10_salt ∈ Tb ∧ Cond.selects (clC 10) yX10_salt yX10_salt ∈ Tb := ⟨rfl, tb_mem 682 (by decide +kernel) (by decide +kernel), tb_mem 683 (by decide +kernel) (by decide +kernel)⟩
theorem ml_RL_57 : ML RL 57 yX11_salt cX11_salt 1 (some .int) 0 := ⟨tb_mem 1570 (by decide +kernel) (by decide +kernel), tb_mem 131 (by decide +kernel) (by decide +kernel), tb_mem 1573 (by decide +kernel) (by decide +kernel), by decide +kernel⟩
theorem mv_X11_salt : yX11_salt.cls = clC 11 ∧ Cond.instanceMethod yX11_salt ∈ Tb ∧ Cond.selects (clC 11) yX11_salt yX11_salt ∈ Tb := ⟨rfl, tb_mem 1571 (by decide +kernel) (by decide +kernel), tb_mem 1572 (by decide +kernel) (by decide +kernel)⟩
theorem ml_RL_58 : ML RL 58 yX10_law cX10_law 2 (some .int) 0 := ⟨tb_mem 685 (by decide +kernel) (by decide +kernel), tb_mem 120 (by decide +kernel) (by decide +kernel), tb_mem 688 (by decide +kernel) (by decide +kernel), by decide +kernel⟩
theorem mv_X10_law : yX10_law.cls = clC 10 ∧ Cond.instanceMethod yX10_law ∈ Tb ∧ Cond.selects (clC 10) yX10_law yX10_law ∈ Tb := ⟨rfl, tb_mem 686 (by decide +kernel) (by decide +kernel), tb_mem 687 (by decide +kernel) (by decide +kernel)⟩
theorem ml_RL_61 : ML RL 61 yX11_law cX11_law 1 (some .int) 0 := ⟨tb_mem 1582 (by decide +kernel) (by decide +kernel), tb_mem 131 (by decide +kernel) (by decide +kernel), tb_mem 1585 (by decide +kernel) (by decide +kernel), by decide +kernel⟩
theorem mv_X11_law : yX11_law.cls = clC 11 ∧ Cond.instanceMethod yX11_law ∈ Tb ∧ Cond.selects (clC 11) yX11_law yX11_law ∈ Tb := ⟨rfl, tb_mem 1583 (by decide +kernel) (by decide +kernel), tb_mem 1584 (by decide +kernel) (by decide +kernel)⟩
theorem ml_RL_62 : ML RL 62 yX10_orders cX10_orders 3 (some .int) 0 := ⟨tb_mem 911 (by decide +kernel) (by decide +kernel), tb_mem 120 (by decide +kernel) (by decide +kernel), tb_mem 914 (by decide +kernel) (by decide +kernel), by decide +kernel⟩
theorem mv_X10_orders : yX10_orders.cls = clC 10 ∧ Cond.instanceMethod yX10_orders ∈ Tb ∧ Cond.selects (clC 10) yX10_orders yX10_orders ∈ Tb := ⟨rfl, tb_mem 912 (by decide +kernel) (by decide +kernel), tb_mem 913 (by decide +kernel) (by decide +kernel)⟩
theorem ml_RL_65 : ML RL 65 yX11_orders cX11_orders 5 (some .int) 0 := ⟨tb_mem 1931 (by decide +kernel) (by decide +kernel), tb_mem 131 (by decide +kernel) (by decide +kernel), tb_mem 1934 (by decide +kernel) (by decide +kernel), by decide +kernel⟩
theorem mv_X11_orders : yX11_orders.cls = clC 11 ∧ Cond.instanceMethod yX11_orders ∈ Tb ∧ Cond.selects (clC 11) yX11_orders yX11_orders ∈ Tb := ⟨rfl, tb_mem 1932 (by decide +kernel) (by decide +kernel), tb_mem 1933 (by decide +kernel) (by decide +kernel)⟩
theorem ml_RL_66 : ML RL 66 yX10_fault cX10_fault 1 (some .int) 0 := ⟨tb_mem 1031 (by decide +kernel) (by decide +kernel), tb_mem 120 (by decide +kernel) (by decide +kernel), tb_mem 1034 (by decide +kernel) (by decide +kernel), by decide +kernel⟩
theorem mv_X10_fault : yX10_fault.cls = clC 10 ∧ Cond.instanceMethod yX10_fault ∈ Tb ∧ Cond.selects (clC 10) yX10_fault yX10_fault ∈ Tb := ⟨rfl, tb_mem 1032 (by decide +kernel) (by decide +kernel), tb_mem 1033 (by decide +kernel) (by decide +kernel)⟩
theorem ml_RL_69 : ML RL 69 yX11_fault cX11_fault 1 (some .int) 0 := ⟨tb_mem 1676 (by decide +kernel) (by decide +kernel), tb_mem 131 (by decide +kernel) (by decide +kernel), tb_mem 1679 (by decide +kernel) (by decide +kernel), by decide +kernel⟩
theorem mv_X11_fault : yX11_fault.cls = clC 11 ∧ Cond.instanceMethod yX11_fault ∈ Tb ∧ Cond.selects (clC 11) yX11_fault yX11_fault ∈ Tb := ⟨rfl, tb_mem 1677 (by decide +kernel) (by decide +kernel), tb_mem 1678 (by decide +kernel) (by decide +kernel)⟩
theorem ml_RL_70 : ML RL 70 yX10_stopped cX10_stopped 1 (some .int) 0 := ⟨tb_mem 1035 (by decide +kernel) (by decide +kernel), tb_mem 120 (by decide +kernel) (by decide +kernel), tb_mem 1038 (by decide +kernel) (by decide +kernel), by decide +kernel⟩
theorem mv_X10_stopped : yX10_stopped.cls = clC 10 ∧ Cond.instanceMethod yX10_stopped ∈ Tb ∧ Cond.selects (clC 10) yX10_stopped yX10_stopped ∈ Tb := ⟨rfl, tb_mem 1036 (by decide +kernel) (by decide +kernel), tb_mem 1037 (by decide +kernel) (by decide +kernel)⟩
theorem ml_RL_73 : ML RL 73 yX11_stopped cX11_stopped 1 (some .int) 0 := ⟨tb_mem 1927 (by decide +kernel) (by decide +kernel), tb_mem 131 (by decide +kernel) (by decide +kernel), tb_mem 1930 (by decide +kernel) (by decide +kernel), by decide +kernel⟩
theorem mv_X11_stopped : yX11_stopped.cls = clC 11 ∧ Cond.instanceMethod yX11_stopped ∈ Tb ∧ Cond.selects (clC 11) yX11_stopped yX11_stopped ∈ Tb := ⟨rfl, tb_mem 1928 (by decide +kernel) (by decide +kernel), tb_mem 1929 (by decide +kernel) (by decide +kernel)⟩
theorem ml_RL_74 : ML RL 74 yX10_force cX10_force 3 (some .int) 1 := ⟨tb_mem 1039 (by decide +kernel) (by decide +kernel), tb_mem 120 (by decide +kernel) (by decide +kernel), tb_mem 1042 (by decide +kernel) (by decide +kernel), by decide +kernel⟩
theorem mv_X10_force : yX10_force.cls = clC 10 ∧ Cond.instanceMethod yX10_force ∈ Tb ∧ Cond.selects (clC 10) yX10_force yX10_force ∈ Tb := ⟨rfl, tb_mem 1040 (by decide +kernel) (by decide +kernel), tb_mem 1041 (by decide +kernel) (by decide +kernel)⟩
theorem ml_RL_77 : ML RL 77 yX11_force cX11_force 3 (some .int) 1 := ⟨tb_mem 1680 (by decide +kernel) (by decide +kernel), tb_mem 131 (by decide +kernel) (by decide +kernel), tb_mem 1683 (by decide +kernel) (by decide +kernel), by decide +kernel⟩
theorem mv_X11_force : yX11_force.cls = clC 11 ∧ Cond.instanceMethod yX11_force ∈ Tb ∧ Cond.selects (clC 11) yX11_force yX11_force ∈ Tb := ⟨rfl, tb_mem 1681 (by decide +kernel) (by decide +kernel), tb_mem 1682 (by decide +kernel) (by decide +kernel)⟩
theorem ml_RL_78 : ML RL 78 yX10_asks cX10_asks 4 (some .int) 3 := ⟨tb_mem 1043 (by decide +kernel) (by decide +kernel), tb_mem 120 (by decide +kernel) (by decide +kernel), tb_mem 1046 (by decide +kernel) (by decide +kernel), by decide +kernel⟩
theorem mv_X10_asks : yX10_asks.cls = clC 10 ∧ Cond.instanceMethod yX10_asks ∈ Tb ∧ Cond.selects (clC 10) yX10_asks yX10_asks ∈ Tb := ⟨rfl, tb_mem 1044 (by decide +kernel) (by decide +kernel), tb_mem 1045 (by decide +kernel) (by decide +kernel)⟩
theorem ml_RL_81 : ML RL 81 yX11_asks cX11_asks 4 (some .int) 3 := ⟨tb_mem 1684 (by decide +kernel) (by decide +kernel), tb_mem 131 (by decide +kernel) (by decide +kernel), tb_mem 1687 (by decide +kernel) (by decide +kernel), by decide +kernel⟩
theorem mv_X11_asks : yX11_asks.cls = clC 11 ∧ Cond.instanceMethod yX11_asks ∈ Tb ∧ Cond.selects (clC 11) yX11_asks yX11_asks ∈ Tb := ⟨rfl, tb_mem 1685 (by decide +kernel) (by decide +kernel), tb_mem 1686 (by decide +kernel) (by decide +kernel)⟩
theorem ml_RL_82 : ML RL 82 yX10_send cX10_send 2 (some .int) 1 := ⟨tb_mem 1052 (by decide +kernel) (by decide +kernel), tb_mem 120 (by decide +kernel) (by decide +kernel), tb_mem 1055 (by decide +kernel) (by decide +kernel), by decide +kernel⟩
theorem mv_X10_send : yX10_send.cls = clC 10 ∧ Cond.instanceMethod yX10_send ∈ Tb ∧ Cond.selects (clC 10) yX10_send yX10_send ∈ Tb := ⟨rfl, tb_mem 1053 (by decide +kernel) (by decide +kernel), tb_mem 1054 (by decide +kernel) (by decide +kernel)⟩
theorem ml_RL_85 : ML RL 85 yX11_send cX11_send 2 (some .int) 1 := ⟨tb_mem 1771 (by decide +kernel) (by decide +kernel), tb_mem 131 (by decide +kernel) (by decide +kernel), tb_mem 1774 (by decide +kernel) (by decide +kernel), by decide +kernel⟩
theorem mv_X11_send : yX11_send.cls = clC 11 ∧ Cond.instanceMethod yX11_send ∈ Tb ∧ Cond.selects (clC 11) yX11_send yX11_send ∈ Tb := ⟨rfl, tb_mem 1772 (by decide +kernel) (by decide +kernel), tb_mem 1773 (by decide +kernel) (by decide +kernel)⟩
theorem ml_RL_86 : ML RL 86 yX10_light cX10_light 2 (some .int) 1 := ⟨tb_mem 1061 (by decide +kernel) (by decide +kernel), tb_mem 120 (by decide +kernel) (by decide +kernel), tb_mem 1064 (by decide +kernel) (by decide +kernel), by decide +kernel⟩
theorem mv_X10_light : yX10_light.cls = clC 10 ∧ Cond.instanceMethod yX10_light ∈ Tb ∧ Cond.selects (clC 10) yX10_light yX10_light ∈ Tb := ⟨rfl, tb_mem 1062 (by decide +kernel) (by decide +kernel), tb_mem 1063 (by decide +kernel) (by decide +kernel)⟩
theorem ml_RL_89 : ML RL 89 yX11_light cX11_light 2 (some .int) 1 := ⟨tb_mem 1787 (by decide +kernel) (by decide +kernel), tb_mem 131 (by decide +kernel) (by decide +kernel), tb_mem 1790 (by decide +kernel) (by decide +kernel), by decide +kernel⟩
theorem mv_X11_light : yX11_light.cls = clC 11 ∧ Cond.instanceMethod yX11_light ∈ Tb ∧ Cond.selects (clC 11) yX11_light yX11_light ∈ Tb := ⟨rfl, tb_mem 1788 (by decide +kernel) (by decide +kernel), tb_mem 1789 (by decide +kernel) (by decide +kernel)⟩
theorem ml_RL_90 : ML RL 90 yX10_dark cX10_dark 1 (some .int) 0 := ⟨tb_mem 1066 (by decide +kernel) (by decide +kernel), tb_mem 120 (by decide +kernel) (by decide +kernel), tb_mem 1069 (by decide +kernel) (by decide +kernel), by decide +kernel⟩
theorem mv_X10_dark : yX10_dark.cls = clC 10 ∧ Cond.instanceMethod yX10_dark ∈ Tb ∧ Cond.selects (clC 10) yX10_dark yX10_dark ∈ Tb := ⟨rfl, tb_mem 1067 (by decide +kernel) (by decide +kernel), tb_mem 1068 (by decide +kernel) (by decide +kernel)⟩
theorem ml_RL_93 : ML RL 93 yX11_dark cX11_dark 1 (some .int) 0 := ⟨tb_mem 1816 (by decide +kernel) (by decide +kernel), tb_mem 131 (by decide +kernel) (by decide +kernel), tb_mem 1819 (by decide +kernel) (by decide +kernel), by decide +kernel⟩
theorem mv_X11_dark : yX11_dark.cls = clC 11 ∧ Cond.instanceMethod yX11_dark ∈ Tb ∧ Cond.selects (clC 11) yX11_dark yX11_dark ∈ Tb := ⟨rfl, tb_mem 1817 (by decide +kernel) (by decide +kernel), tb_mem 1818 (by decide +kernel) (by decide +kernel)⟩
theorem ml_RL_94 : ML RL 94 yX10_undo cX10_undo 2 (some .int) 0 := ⟨tb_mem 1071 (by decide +kernel) (by decide +kernel), tb_mem 120 (by decide +kernel) (by decide +kernel), tb_mem 1074 (by decide +kernel) (by decide +kernel), by decide +kernel⟩
theorem mv_X10_undo : yX10_undo.cls = clC 10 ∧ Cond.instanceMethod yX10_undo ∈ Tb ∧ Cond.selects (clC 10) yX10_undo yX10_undo ∈ Tb := ⟨rfl, tb_mem 1072 (by decide +kernel) (by decide +kernel), tb_mem 1073 (by decide +kernel) (by decide +kernel)⟩
theorem ml_RL_97 : ML RL 97 yX11_undo cX11_undo 3 (some .int) 0 := ⟨tb_mem 1767 (by decide +kernel) (by decide +kernel), tb_mem 131 (by decide +kernel) (by decide +kernel), tb_mem 1770 (by decide +kernel) (by decide +kernel), by decide +kernel⟩
theorem mv_X11_undo : yX11_undo.cls = clC 11 ∧ Cond.instanceMethod yX11_undo ∈ Tb ∧ Cond.selects (clC 11) yX11_undo yX11_undo ∈ Tb := ⟨rfl, tb_mem 1768 (by decide +kernel) (by decide +kernel), tb_mem 1769 (by decide +kernel) (by decide +kernel)⟩
theorem ml_RL_98 : ML RL 98 yX10_last cX10_last 3 (some .int) 1 := ⟨tb_mem 1079 (by decide +kernel) (by decide +kernel), tb_mem 120 (by decide +kernel) (by decide +kernel), tb_mem 1082 (by decide +kernel) (by decide +kernel), by decide +kernel⟩
theorem mv_X10_last : yX10_last.cls = clC 10 ∧ Cond.instanceMethod yX10_last ∈ Tb ∧ Cond.selects (clC 10) yX10_last yX10_last ∈ Tb := ⟨rfl, tb_mem 1080 (by decide +kernel) (by decide +kernel), tb_mem 1081 (by decide +kernel) (by decide +kernel)⟩
theorem eok_eoS {E : ev_E} (h : Eok E) (o : Nat) : Eok (eoS E o) := h
theorem cmp_self (x : Int) : wr (p_cmp x x) = 0 := by
  rw [cn_cmp]
  unfold p_cmp lg_cmp
  simp
theorem p_sldN {X : jj_X} {A : Nat → Prop} {P : Heap → Prop} {cc : ByteArray} {nL cells slots pc : Nat} {own : String} {Q : State → Prop} {lv : List (Nat × Value)} {st : List Value} (hc : Lc X cc nL own) {b L : Nat} {xs : Nat → Int32} (hX : va_X b L xs (xS X) (xS X).heap) (hbl : b < (xS X).heap.size) (hbA : ¬ A b) {i : Int} {j : Nat} (hj : wr i = (j : Int)) (hjl : j < L) (hd : decode cc pc = .ok (.iaload, 1)) (k : JP X A P nL cells slots Q (pc + 1) lv (vI (xs j).toInt :: st)) : JP X A P nL cells slots Q pc lv (vI i :: .ref b :: st) :=
  p_sld hc hX hbl hbA (by rw [hj]; exact ⟨by omega, by omega⟩) hd (by rw [hj, Int.toNat_natCast]; exact k)
/-- what a call must give: alike answers, and R behind it -/
def stp (k : Nat) (a : Nat → Int) (σc σm : st_S) (R : st_S → st_S → Prop) : Prop := match k with
  | 0 => wp_X10_person (a 1) (a 2) σc (fun r τ => wp_X11_person (a 1) (a 2) σm (fun r2 υ => r = r2 ∧ R τ υ))
  | 1 => wp_X10_hear (a 1) (a 2) σc (fun r τ => wp_X11_hear (a 1) (a 2) σm (fun r2 υ => r = r2 ∧ R τ υ))
  | 2 => wp_X10_of (a 1) (a 2) σc (fun r τ => wp_X11_of (a 1) (a 2) σm (fun r2 υ => r = r2 ∧ R τ υ))
  | 3 => wp_X10_talk (a 1) (a 2) (a 3) σc (fun r τ => wp_X11_talk (a 1) (a 2) (a 3) σm (fun r2 υ => r = r2 ∧ R τ υ))
  | 4 => wp_X10_fog (a 1) (a 2) σc (fun r τ => wp_X11_fog (a 1) (a 2) σm (fun r2 υ => r = r2 ∧ R τ υ))
  | 5 => wp_X10_terms (a 1) (a 2) σc (fun r τ => wp_X11_terms (a 1) (a 2) σm (fun r2 υ => r = r2 ∧ R τ υ))
  | 6 => wp_X10_feed (a 1) (a 2) (a 3) (a 4) (a 5) σc (fun r τ => wp_X11_feed (a 1) (a 2) (a 3) (a 4) (a 5) σm (fun r2 υ => r = r2 ∧ R τ υ))
  | 7 => wp_X10_end (a 1) σc (fun r τ => wp_X11_end (a 1) σm (fun r2 υ => r = r2 ∧ R τ υ))
  | 8 => wp_X10_row  σc (fun r τ => wp_X11_row  σm (fun r2 υ => r = r2 ∧ R τ υ))
  | 9 => wp_X10_salt  σc (fun r τ => wp_X11_salt  σm (fun r2 υ => r = r2 ∧ R τ υ))
  | 10 => wp_X10_law  σc (fun r τ => wp_X11_law  σm (fun r2 υ => r = r2 ∧ R τ υ))
  | 11 => wp_X10_orders  σc (fun r τ => wp_X11_orders  σm (fun r2 υ => r = r2 ∧ R τ υ))
  | 12 => wp_X10_fault  σc (fun r τ => wp_X11_fault  σm (fun r2 υ => r = r2 ∧ R τ υ))
  | 13 => wp_X10_stopped  σc (fun r τ => wp_X11_stopped  σm (fun r2 υ => r = r2 ∧ R τ υ))
  | 14 => wp_X10_force (a 1) σc (fun r τ => wp_X11_force (a 1) σm (fun r2 υ => r = r2 ∧ R τ υ))
  | 15 => wp_X10_asks (a 1) (a 2) (a 3) σc (fun r τ => wp_X11_asks (a 1) (a 2) (a 3) σm (fun r2 υ => r = r2 ∧ R τ υ))
  | 16 => wp_X10_send (a 1) σc (fun r τ => wp_X11_send (a 1) σm (fun r2 υ => r = r2 ∧ R τ υ))
  | 17 => wp_X10_light (a 1) σc (fun r τ => wp_X11_light (a 1) σm (fun r2 υ => r = r2 ∧ R τ υ))
  | 18 => wp_X10_dark  σc (fun r τ => wp_X11_dark  σm (fun r2 υ => r = r2 ∧ R τ υ))
  | 19 => wp_X10_undo  σc (fun r τ => wp_X11_undo  σm (fun r2 υ => r = r2 ∧ R τ υ))
  | 20 => wp_X10_last (a 1) σc (fun r τ => wp_X11_last (a 1) σm (fun r2 υ => r = r2 ∧ R τ υ))
  | 21 => wp_X10_cheap (a 1) (a 2) σc (fun r τ => wp_X11_cheap (a 1) (a 2) σm (fun r2 υ => r = r2 ∧ R τ υ))
  | 22 => wp_X10_ways (a 1) σc (fun r τ => wp_X11_ways (a 1) σm (fun r2 υ => r = r2 ∧ R τ υ))
  | 23 => wp_X10_late (a 1) σc (fun r τ => wp_X11_late (a 1) σm (fun r2 υ => r = r2 ∧ R τ υ))
  | 24 => wp_X10_swaps (a 1) σc (fun r τ => wp_X11_swaps (a 1) σm (fun r2 υ => r = r2 ∧ R τ υ))
  | 25 => wp_X10_crews (a 1) σc (fun r τ => wp_X11_crews (a 1) σm (fun r2 υ => r = r2 ∧ R τ υ))
  | 26 => wp_X10_share (a 1) σc (fun r τ => wp_X11_share (a 1) σm (fun r2 υ => r = r2 ∧ R τ υ))
  | 27 => wp_X10_harm (a 1) σc (fun r τ => wp_X11_harm (a 1) σm (fun r2 υ => r = r2 ∧ R τ υ))
  | 28 => wp_X10_hush (a 1) (a 2) σc (fun r τ => wp_X11_hush (a 1) (a 2) σm (fun r2 υ => r = r2 ∧ R τ υ))
  | 29 => wp_X10_who (a 1) σc (fun r τ => wp_X11_who (a 1) σm (fun r2 υ => r = r2 ∧ R τ υ))
  | 30 => wp_X10_winter (a 1) (a 2) σc (fun r τ => wp_X11_winter (a 1) (a 2) σm (fun r2 υ => r = r2 ∧ R τ υ))
  | 31 => wp_X10_drawn (a 1) σc (fun r τ => wp_X11_drawn (a 1) σm (fun r2 υ => r = r2 ∧ R τ υ))
  | 32 => wp_X10_image (a 1) σc (fun r τ => wp_X11_image (a 1) σm (fun r2 υ => r = r2 ∧ R τ υ))
  | 33 => wp_X10_back (a 1) σc (fun r τ => wp_X11_back (a 1) σm (fun r2 υ => r = r2 ∧ R τ υ))
  | 34 => wp_X10_count (a 1) σc (fun r τ => wp_X11_count (a 1) σm (fun r2 υ => r = r2 ∧ R τ υ))
  | 35 => wp_X10_status  σc (fun r τ => wp_X11_status  σm (fun r2 υ => r = r2 ∧ R τ υ))
  | _ => R σc σm
