theorem dL_law_0 : decode mL_law.2.1 0 = .ok (.new 7, 3) := by decide +kernel
theorem dL_law_3 : decode mL_law.2.1 3 = .ok (.dup, 1) := by decide +kernel
theorem dL_law_4 : decode mL_law.2.1 4 = .ok (.invokespecial 9, 3) := by decide +kernel
theorem dL_law_7 : decode mL_law.2.1 7 = .ok (.astore_n 1, 1) := by decide +kernel
theorem dL_law_8 : decode mL_law.2.1 8 = .ok (.new 10, 3) := by decide +kernel
theorem dL_law_11 : decode mL_law.2.1 11 = .ok (.dup, 1) := by decide +kernel
theorem dL_law_12 : decode mL_law.2.1 12 = .ok (.invokespecial 12, 3) := by decide +kernel
theorem dL_law_15 : decode mL_law.2.1 15 = .ok (.astore_n 2, 1) := by decide +kernel
theorem dL_law_16 : decode mL_law.2.1 16 = .ok (.iconst 0, 1) := by decide +kernel
theorem dL_law_17 : decode mL_law.2.1 17 = .ok (.istore_n 3, 1) := by decide +kernel
theorem dL_law_18 : decode mL_law.2.1 18 = .ok (.iload_n 3, 1) := by decide +kernel
theorem dL_law_19 : decode mL_law.2.1 19 = .ok (.aload_n 0, 1) := by decide +kernel
theorem dL_law_20 : decode mL_law.2.1 20 = .ok (.arraylength, 1) := by decide +kernel
theorem dL_law_21 : decode mL_law.2.1 21 = .ok (.bipush 6, 2) := by decide +kernel
theorem dL_law_23 : decode mL_law.2.1 23 = .ok (.isub, 1) := by decide +kernel
theorem dL_law_24 : decode mL_law.2.1 24 = .ok (.if_icmp .gt 1472, 3) := by decide +kernel
theorem dL_law_27 : decode mL_law.2.1 27 = .ok (.aload_n 0, 1) := by decide +kernel
theorem dL_law_28 : decode mL_law.2.1 28 = .ok (.iload_n 3, 1) := by decide +kernel
theorem dL_law_29 : decode mL_law.2.1 29 = .ok (.iaload, 1) := by decide +kernel
theorem dL_law_30 : decode mL_law.2.1 30 = .ok (.bipush 63, 2) := by decide +kernel
theorem dL_law_32 : decode mL_law.2.1 32 = .ok (.iand, 1) := by decide +kernel
theorem dL_law_33 : decode mL_law.2.1 33 = .ok (.tableswitch 1457 0 37 #[167, 200, 233, 266, 309, 342, 365, 424, 447, 490, 523, 546, 579, 602, 645, 668, 701, 734, 767, 800, 853, 916, 949, 982, 1015, 1038, 1081, 1094, 1127, 1170, 1213, 1236, 1279, 1322, 1385, 1398, 1411, 1434], 167) := by decide +kernel
theorem dL_law_200 : decode mL_law.2.1 200 = .ok (.aload_n 1, 1) := by decide +kernel
theorem dL_law_201 : decode mL_law.2.1 201 = .ok (.aload_n 0, 1) := by decide +kernel
theorem dL_law_202 : decode mL_law.2.1 202 = .ok (.iload_n 3, 1) := by decide +kernel
theorem dL_law_203 : decode mL_law.2.1 203 = .ok (.iconst 1, 1) := by decide +kernel
theorem dL_law_204 : decode mL_law.2.1 204 = .ok (.iadd, 1) := by decide +kernel
theorem dL_law_205 : decode mL_law.2.1 205 = .ok (.iaload, 1) := by decide +kernel
theorem dL_law_206 : decode mL_law.2.1 206 = .ok (.aload_n 0, 1) := by decide +kernel
theorem dL_law_207 : decode mL_law.2.1 207 = .ok (.iload_n 3, 1) := by decide +kernel
theorem dL_law_208 : decode mL_law.2.1 208 = .ok (.iconst 2, 1) := by decide +kernel
theorem dL_law_209 : decode mL_law.2.1 209 = .ok (.iadd, 1) := by decide +kernel
theorem dL_law_210 : decode mL_law.2.1 210 = .ok (.iaload, 1) := by decide +kernel
theorem dL_law_211 : decode mL_law.2.1 211 = .ok (.invokevirtual 13, 3) := by decide +kernel
theorem dL_law_214 : decode mL_law.2.1 214 = .ok (.aload_n 2, 1) := by decide +kernel
theorem dL_law_215 : decode mL_law.2.1 215 = .ok (.aload_n 0, 1) := by decide +kernel
theorem dL_law_216 : decode mL_law.2.1 216 = .ok (.iload_n 3, 1) := by decide +kernel
theorem dL_law_217 : decode mL_law.2.1 217 = .ok (.iconst 1, 1) := by decide +kernel
theorem dL_law_218 : decode mL_law.2.1 218 = .ok (.iadd, 1) := by decide +kernel
theorem dL_law_219 : decode mL_law.2.1 219 = .ok (.iaload, 1) := by decide +kernel
theorem dL_law_220 : decode mL_law.2.1 220 = .ok (.aload_n 0, 1) := by decide +kernel
theorem dL_law_221 : decode mL_law.2.1 221 = .ok (.iload_n 3, 1) := by decide +kernel
theorem dL_law_222 : decode mL_law.2.1 222 = .ok (.iconst 2, 1) := by decide +kernel
theorem dL_law_223 : decode mL_law.2.1 223 = .ok (.iadd, 1) := by decide +kernel
theorem dL_law_224 : decode mL_law.2.1 224 = .ok (.iaload, 1) := by decide +kernel
theorem dL_law_225 : decode mL_law.2.1 225 = .ok (.invokevirtual 17, 3) := by decide +kernel
theorem dL_law_228 : decode mL_law.2.1 228 = .ok (.if_icmp .eq 1262, 3) := by decide +kernel
theorem dL_law_231 : decode mL_law.2.1 231 = .ok (.iconst 0, 1) := by decide +kernel
theorem dL_law_232 : decode mL_law.2.1 232 = .ok (.ireturn, 1) := by decide +kernel
theorem dL_law_233 : decode mL_law.2.1 233 = .ok (.aload_n 1, 1) := by decide +kernel
theorem dL_law_234 : decode mL_law.2.1 234 = .ok (.aload_n 0, 1) := by decide +kernel
theorem dL_law_235 : decode mL_law.2.1 235 = .ok (.iload_n 3, 1) := by decide +kernel
theorem dL_law_236 : decode mL_law.2.1 236 = .ok (.iconst 1, 1) := by decide +kernel
theorem dL_law_237 : decode mL_law.2.1 237 = .ok (.iadd, 1) := by decide +kernel
theorem dL_law_238 : decode mL_law.2.1 238 = .ok (.iaload, 1) := by decide +kernel
theorem dL_law_239 : decode mL_law.2.1 239 = .ok (.aload_n 0, 1) := by decide +kernel
theorem dL_law_240 : decode mL_law.2.1 240 = .ok (.iload_n 3, 1) := by decide +kernel
theorem dL_law_241 : decode mL_law.2.1 241 = .ok (.iconst 2, 1) := by decide +kernel
theorem dL_law_242 : decode mL_law.2.1 242 = .ok (.iadd, 1) := by decide +kernel
theorem dL_law_243 : decode mL_law.2.1 243 = .ok (.iaload, 1) := by decide +kernel
theorem dL_law_244 : decode mL_law.2.1 244 = .ok (.invokevirtual 18, 3) := by decide +kernel
theorem dL_law_247 : decode mL_law.2.1 247 = .ok (.aload_n 2, 1) := by decide +kernel
theorem dL_law_248 : decode mL_law.2.1 248 = .ok (.aload_n 0, 1) := by decide +kernel
theorem dL_law_249 : decode mL_law.2.1 249 = .ok (.iload_n 3, 1) := by decide +kernel
theorem dL_law_250 : decode mL_law.2.1 250 = .ok (.iconst 1, 1) := by decide +kernel
theorem dL_law_251 : decode mL_law.2.1 251 = .ok (.iadd, 1) := by decide +kernel
theorem dL_law_252 : decode mL_law.2.1 252 = .ok (.iaload, 1) := by decide +kernel
theorem dL_law_253 : decode mL_law.2.1 253 = .ok (.aload_n 0, 1) := by decide +kernel
theorem dL_law_254 : decode mL_law.2.1 254 = .ok (.iload_n 3, 1) := by decide +kernel
theorem dL_law_255 : decode mL_law.2.1 255 = .ok (.iconst 2, 1) := by decide +kernel
theorem dL_law_256 : decode mL_law.2.1 256 = .ok (.iadd, 1) := by decide +kernel
theorem dL_law_257 : decode mL_law.2.1 257 = .ok (.iaload, 1) := by decide +kernel
theorem dL_law_258 : decode mL_law.2.1 258 = .ok (.invokevirtual 21, 3) := by decide +kernel
theorem dL_law_261 : decode mL_law.2.1 261 = .ok (.if_icmp .eq 1229, 3) := by decide +kernel
theorem dL_law_264 : decode mL_law.2.1 264 = .ok (.iconst 0, 1) := by decide +kernel
theorem dL_law_265 : decode mL_law.2.1 265 = .ok (.ireturn, 1) := by decide +kernel
theorem dL_law_266 : decode mL_law.2.1 266 = .ok (.aload_n 1, 1) := by decide +kernel
theorem dL_law_267 : decode mL_law.2.1 267 = .ok (.aload_n 0, 1) := by decide +kernel
theorem dL_law_268 : decode mL_law.2.1 268 = .ok (.iload_n 3, 1) := by decide +kernel
theorem dL_law_269 : decode mL_law.2.1 269 = .ok (.iconst 1, 1) := by decide +kernel
theorem dL_law_270 : decode mL_law.2.1 270 = .ok (.iadd, 1) := by decide +kernel
theorem dL_law_271 : decode mL_law.2.1 271 = .ok (.iaload, 1) := by decide +kernel
theorem dL_law_272 : decode mL_law.2.1 272 = .ok (.aload_n 0, 1) := by decide +kernel
theorem dL_law_273 : decode mL_law.2.1 273 = .ok (.iload_n 3, 1) := by decide +kernel
theorem dL_law_274 : decode mL_law.2.1 274 = .ok (.iconst 2, 1) := by decide +kernel
theorem dL_law_275 : decode mL_law.2.1 275 = .ok (.iadd, 1) := by decide +kernel
theorem dL_law_276 : decode mL_law.2.1 276 = .ok (.iaload, 1) := by decide +kernel
theorem dL_law_277 : decode mL_law.2.1 277 = .ok (.invokevirtual 22, 3) := by decide +kernel
theorem dL_law_280 : decode mL_law.2.1 280 = .ok (.aload_n 2, 1) := by decide +kernel
theorem dL_law_281 : decode mL_law.2.1 281 = .ok (.aload_n 0, 1) := by decide +kernel
theorem dL_law_282 : decode mL_law.2.1 282 = .ok (.iload_n 3, 1) := by decide +kernel
theorem dL_law_283 : decode mL_law.2.1 283 = .ok (.iconst 1, 1) := by decide +kernel
theorem dL_law_284 : decode mL_law.2.1 284 = .ok (.iadd, 1) := by decide +kernel
theorem dL_law_285 : decode mL_law.2.1 285 = .ok (.iaload, 1) := by decide +kernel
theorem dL_law_286 : decode mL_law.2.1 286 = .ok (.aload_n 0, 1) := by decide +kernel
theorem dL_law_287 : decode mL_law.2.1 287 = .ok (.iload_n 3, 1) := by decide +kernel
theorem dL_law_288 : decode mL_law.2.1 288 = .ok (.iconst 2, 1) := by decide +kernel
theorem dL_law_289 : decode mL_law.2.1 289 = .ok (.iadd, 1) := by decide +kernel
theorem dL_law_290 : decode mL_law.2.1 290 = .ok (.iaload, 1) := by decide +kernel
theorem dL_law_291 : decode mL_law.2.1 291 = .ok (.invokevirtual 25, 3) := by decide +kernel
theorem dL_law_294 : decode mL_law.2.1 294 = .ok (.if_icmp .eq 1196, 3) := by decide +kernel
theorem dL_law_297 : decode mL_law.2.1 297 = .ok (.iconst 0, 1) := by decide +kernel
theorem dL_law_298 : decode mL_law.2.1 298 = .ok (.ireturn, 1) := by decide +kernel
theorem dL_law_299 : decode mL_law.2.1 299 = .ok (.aload_n 1, 1) := by decide +kernel
theorem dL_law_300 : decode mL_law.2.1 300 = .ok (.aload_n 0, 1) := by decide +kernel
theorem dL_law_301 : decode mL_law.2.1 301 = .ok (.iload_n 3, 1) := by decide +kernel
theorem dL_law_302 : decode mL_law.2.1 302 = .ok (.iconst 1, 1) := by decide +kernel
theorem dL_law_303 : decode mL_law.2.1 303 = .ok (.iadd, 1) := by decide +kernel
theorem dL_law_304 : decode mL_law.2.1 304 = .ok (.iaload, 1) := by decide +kernel
theorem dL_law_305 : decode mL_law.2.1 305 = .ok (.aload_n 0, 1) := by decide +kernel
theorem dL_law_306 : decode mL_law.2.1 306 = .ok (.iload_n 3, 1) := by decide +kernel
theorem dL_law_307 : decode mL_law.2.1 307 = .ok (.iconst 2, 1) := by decide +kernel
theorem dL_law_308 : decode mL_law.2.1 308 = .ok (.iadd, 1) := by decide +kernel
theorem dL_law_309 : decode mL_law.2.1 309 = .ok (.iaload, 1) := by decide +kernel
theorem dL_law_310 : decode mL_law.2.1 310 = .ok (.aload_n 0, 1) := by decide +kernel
theorem dL_law_311 : decode mL_law.2.1 311 = .ok (.iload_n 3, 1) := by decide +kernel
theorem dL_law_312 : decode mL_law.2.1 312 = .ok (.iconst 3, 1) := by decide +kernel
theorem dL_law_313 : decode mL_law.2.1 313 = .ok (.iadd, 1) := by decide +kernel
theorem dL_law_314 : decode mL_law.2.1 314 = .ok (.iaload, 1) := by decide +kernel
theorem dL_law_315 : decode mL_law.2.1 315 = .ok (.invokevirtual 26, 3) := by decide +kernel
theorem dL_law_318 : decode mL_law.2.1 318 = .ok (.aload_n 2, 1) := by decide +kernel
theorem dL_law_319 : decode mL_law.2.1 319 = .ok (.aload_n 0, 1) := by decide +kernel
theorem dL_law_320 : decode mL_law.2.1 320 = .ok (.iload_n 3, 1) := by decide +kernel
theorem dL_law_321 : decode mL_law.2.1 321 = .ok (.iconst 1, 1) := by decide +kernel
theorem dL_law_322 : decode mL_law.2.1 322 = .ok (.iadd, 1) := by decide +kernel
theorem dL_law_323 : decode mL_law.2.1 323 = .ok (.iaload, 1) := by decide +kernel
theorem dL_law_324 : decode mL_law.2.1 324 = .ok (.aload_n 0, 1) := by decide +kernel
theorem dL_law_325 : decode mL_law.2.1 325 = .ok (.iload_n 3, 1) := by decide +kernel
theorem dL_law_326 : decode mL_law.2.1 326 = .ok (.iconst 2, 1) := by decide +kernel
theorem dL_law_327 : decode mL_law.2.1 327 = .ok (.iadd, 1) := by decide +kernel
theorem dL_law_328 : decode mL_law.2.1 328 = .ok (.iaload, 1) := by decide +kernel
theorem dL_law_329 : decode mL_law.2.1 329 = .ok (.aload_n 0, 1) := by decide +kernel
theorem dL_law_330 : decode mL_law.2.1 330 = .ok (.iload_n 3, 1) := by decide +kernel
theorem dL_law_331 : decode mL_law.2.1 331 = .ok (.iconst 3, 1) := by decide +kernel
theorem dL_law_332 : decode mL_law.2.1 332 = .ok (.iadd, 1) := by decide +kernel
theorem dL_law_333 : decode mL_law.2.1 333 = .ok (.iaload, 1) := by decide +kernel
theorem dL_law_334 : decode mL_law.2.1 334 = .ok (.invokevirtual 30, 3) := by decide +kernel
theorem dL_law_337 : decode mL_law.2.1 337 = .ok (.if_icmp .eq 1153, 3) := by decide +kernel
theorem dL_law_340 : decode mL_law.2.1 340 = .ok (.iconst 0, 1) := by decide +kernel
theorem dL_law_341 : decode mL_law.2.1 341 = .ok (.ireturn, 1) := by decide +kernel
theorem dL_law_342 : decode mL_law.2.1 342 = .ok (.aload_n 1, 1) := by decide +kernel
theorem dL_law_343 : decode mL_law.2.1 343 = .ok (.aload_n 0, 1) := by decide +kernel
theorem dL_law_344 : decode mL_law.2.1 344 = .ok (.iload_n 3, 1) := by decide +kernel
theorem dL_law_345 : decode mL_law.2.1 345 = .ok (.iconst 1, 1) := by decide +kernel
theorem dL_law_346 : decode mL_law.2.1 346 = .ok (.iadd, 1) := by decide +kernel
theorem dL_law_347 : decode mL_law.2.1 347 = .ok (.iaload, 1) := by decide +kernel
theorem dL_law_348 : decode mL_law.2.1 348 = .ok (.aload_n 0, 1) := by decide +kernel
theorem dL_law_349 : decode mL_law.2.1 349 = .ok (.iload_n 3, 1) := by decide +kernel
theorem dL_law_350 : decode mL_law.2.1 350 = .ok (.iconst 2, 1) := by decide +kernel
theorem dL_law_351 : decode mL_law.2.1 351 = .ok (.iadd, 1) := by decide +kernel
theorem dL_law_352 : decode mL_law.2.1 352 = .ok (.iaload, 1) := by decide +kernel
theorem dL_law_353 : decode mL_law.2.1 353 = .ok (.invokevirtual 31, 3) := by decide +kernel
theorem dL_law_356 : decode mL_law.2.1 356 = .ok (.aload_n 2, 1) := by decide +kernel
theorem dL_law_357 : decode mL_law.2.1 357 = .ok (.aload_n 0, 1) := by decide +kernel
theorem dL_law_358 : decode mL_law.2.1 358 = .ok (.iload_n 3, 1) := by decide +kernel
theorem dL_law_359 : decode mL_law.2.1 359 = .ok (.iconst 1, 1) := by decide +kernel
theorem dL_law_360 : decode mL_law.2.1 360 = .ok (.iadd, 1) := by decide +kernel
theorem dL_law_361 : decode mL_law.2.1 361 = .ok (.iaload, 1) := by decide +kernel
theorem dL_law_362 : decode mL_law.2.1 362 = .ok (.aload_n 0, 1) := by decide +kernel
theorem dL_law_363 : decode mL_law.2.1 363 = .ok (.iload_n 3, 1) := by decide +kernel
theorem dL_law_364 : decode mL_law.2.1 364 = .ok (.iconst 2, 1) := by decide +kernel
theorem dL_law_365 : decode mL_law.2.1 365 = .ok (.iadd, 1) := by decide +kernel
theorem dL_law_366 : decode mL_law.2.1 366 = .ok (.iaload, 1) := by decide +kernel
theorem dL_law_367 : decode mL_law.2.1 367 = .ok (.invokevirtual 34, 3) := by decide +kernel
theorem dL_law_370 : decode mL_law.2.1 370 = .ok (.if_icmp .eq 1120, 3) := by decide +kernel
theorem dL_law_373 : decode mL_law.2.1 373 = .ok (.iconst 0, 1) := by decide +kernel
theorem dL_law_374 : decode mL_law.2.1 374 = .ok (.ireturn, 1) := by decide +kernel
theorem dL_law_375 : decode mL_law.2.1 375 = .ok (.aload_n 1, 1) := by decide +kernel
theorem dL_law_376 : decode mL_law.2.1 376 = .ok (.aload_n 0, 1) := by decide +kernel
theorem dL_law_377 : decode mL_law.2.1 377 = .ok (.iload_n 3, 1) := by decide +kernel
theorem dL_law_378 : decode mL_law.2.1 378 = .ok (.iconst 1, 1) := by decide +kernel
theorem dL_law_379 : decode mL_law.2.1 379 = .ok (.iadd, 1) := by decide +kernel
theorem dL_law_380 : decode mL_law.2.1 380 = .ok (.iaload, 1) := by decide +kernel
theorem dL_law_381 : decode mL_law.2.1 381 = .ok (.invokevirtual 35, 3) := by decide +kernel
theorem dL_law_384 : decode mL_law.2.1 384 = .ok (.aload_n 2, 1) := by decide +kernel
theorem dL_law_385 : decode mL_law.2.1 385 = .ok (.aload_n 0, 1) := by decide +kernel
theorem dL_law_386 : decode mL_law.2.1 386 = .ok (.iload_n 3, 1) := by decide +kernel
theorem dL_law_387 : decode mL_law.2.1 387 = .ok (.iconst 1, 1) := by decide +kernel
theorem dL_law_388 : decode mL_law.2.1 388 = .ok (.iadd, 1) := by decide +kernel
theorem dL_law_389 : decode mL_law.2.1 389 = .ok (.iaload, 1) := by decide +kernel
theorem dL_law_390 : decode mL_law.2.1 390 = .ok (.invokevirtual 39, 3) := by decide +kernel
theorem dL_law_393 : decode mL_law.2.1 393 = .ok (.if_icmp .eq 1097, 3) := by decide +kernel
theorem dL_law_396 : decode mL_law.2.1 396 = .ok (.iconst 0, 1) := by decide +kernel
theorem dL_law_397 : decode mL_law.2.1 397 = .ok (.ireturn, 1) := by decide +kernel
theorem dL_law_398 : decode mL_law.2.1 398 = .ok (.aload_n 1, 1) := by decide +kernel
theorem dL_law_399 : decode mL_law.2.1 399 = .ok (.aload_n 0, 1) := by decide +kernel
theorem dL_law_400 : decode mL_law.2.1 400 = .ok (.iload_n 3, 1) := by decide +kernel
theorem dL_law_401 : decode mL_law.2.1 401 = .ok (.iconst 1, 1) := by decide +kernel
theorem dL_law_402 : decode mL_law.2.1 402 = .ok (.iadd, 1) := by decide +kernel
theorem dL_law_403 : decode mL_law.2.1 403 = .ok (.iaload, 1) := by decide +kernel
theorem dL_law_404 : decode mL_law.2.1 404 = .ok (.aload_n 0, 1) := by decide +kernel
theorem dL_law_405 : decode mL_law.2.1 405 = .ok (.iload_n 3, 1) := by decide +kernel
theorem dL_law_406 : decode mL_law.2.1 406 = .ok (.iconst 2, 1) := by decide +kernel
theorem dL_law_407 : decode mL_law.2.1 407 = .ok (.iadd, 1) := by decide +kernel
theorem dL_law_408 : decode mL_law.2.1 408 = .ok (.iaload, 1) := by decide +kernel
theorem dL_law_409 : decode mL_law.2.1 409 = .ok (.aload_n 0, 1) := by decide +kernel
theorem dL_law_410 : decode mL_law.2.1 410 = .ok (.iload_n 3, 1) := by decide +kernel
theorem dL_law_411 : decode mL_law.2.1 411 = .ok (.iconst 3, 1) := by decide +kernel
theorem dL_law_412 : decode mL_law.2.1 412 = .ok (.iadd, 1) := by decide +kernel
theorem dL_law_413 : decode mL_law.2.1 413 = .ok (.iaload, 1) := by decide +kernel
theorem dL_law_414 : decode mL_law.2.1 414 = .ok (.ifCond .eq 7, 3) := by decide +kernel
theorem dL_law_417 : decode mL_law.2.1 417 = .ok (.iconst 1, 1) := by decide +kernel
theorem dL_law_418 : decode mL_law.2.1 418 = .ok (.goto 4, 3) := by decide +kernel
theorem dL_law_421 : decode mL_law.2.1 421 = .ok (.iconst 0, 1) := by decide +kernel
theorem dL_law_422 : decode mL_law.2.1 422 = .ok (.invokevirtual 40, 3) := by decide +kernel
theorem dL_law_425 : decode mL_law.2.1 425 = .ok (.aload_n 2, 1) := by decide +kernel
theorem dL_law_426 : decode mL_law.2.1 426 = .ok (.aload_n 0, 1) := by decide +kernel
theorem dL_law_427 : decode mL_law.2.1 427 = .ok (.iload_n 3, 1) := by decide +kernel
theorem dL_law_428 : decode mL_law.2.1 428 = .ok (.iconst 1, 1) := by decide +kernel
theorem dL_law_429 : decode mL_law.2.1 429 = .ok (.iadd, 1) := by decide +kernel
theorem dL_law_430 : decode mL_law.2.1 430 = .ok (.iaload, 1) := by decide +kernel
theorem dL_law_431 : decode mL_law.2.1 431 = .ok (.aload_n 0, 1) := by decide +kernel
theorem dL_law_432 : decode mL_law.2.1 432 = .ok (.iload_n 3, 1) := by decide +kernel
theorem dL_law_433 : decode mL_law.2.1 433 = .ok (.iconst 2, 1) := by decide +kernel
theorem dL_law_434 : decode mL_law.2.1 434 = .ok (.iadd, 1) := by decide +kernel
theorem dL_law_435 : decode mL_law.2.1 435 = .ok (.iaload, 1) := by decide +kernel
theorem dL_law_436 : decode mL_law.2.1 436 = .ok (.aload_n 0, 1) := by decide +kernel
theorem dL_law_437 : decode mL_law.2.1 437 = .ok (.iload_n 3, 1) := by decide +kernel
theorem dL_law_438 : decode mL_law.2.1 438 = .ok (.iconst 3, 1) := by decide +kernel
theorem dL_law_439 : decode mL_law.2.1 439 = .ok (.iadd, 1) := by decide +kernel
theorem dL_law_440 : decode mL_law.2.1 440 = .ok (.iaload, 1) := by decide +kernel
theorem dL_law_441 : decode mL_law.2.1 441 = .ok (.ifCond .eq 7, 3) := by decide +kernel
theorem dL_law_444 : decode mL_law.2.1 444 = .ok (.iconst 1, 1) := by decide +kernel
theorem dL_law_445 : decode mL_law.2.1 445 = .ok (.goto 4, 3) := by decide +kernel
theorem dL_law_448 : decode mL_law.2.1 448 = .ok (.iconst 0, 1) := by decide +kernel
theorem dL_law_449 : decode mL_law.2.1 449 = .ok (.invokevirtual 44, 3) := by decide +kernel
theorem dL_law_452 : decode mL_law.2.1 452 = .ok (.if_icmp .eq 1038, 3) := by decide +kernel
theorem dL_law_455 : decode mL_law.2.1 455 = .ok (.iconst 0, 1) := by decide +kernel
theorem dL_law_456 : decode mL_law.2.1 456 = .ok (.ireturn, 1) := by decide +kernel
theorem dL_law_457 : decode mL_law.2.1 457 = .ok (.aload_n 1, 1) := by decide +kernel
theorem dL_law_458 : decode mL_law.2.1 458 = .ok (.aload_n 0, 1) := by decide +kernel
theorem dL_law_459 : decode mL_law.2.1 459 = .ok (.iload_n 3, 1) := by decide +kernel
theorem dL_law_460 : decode mL_law.2.1 460 = .ok (.iconst 1, 1) := by decide +kernel
theorem dL_law_461 : decode mL_law.2.1 461 = .ok (.iadd, 1) := by decide +kernel
theorem dL_law_462 : decode mL_law.2.1 462 = .ok (.iaload, 1) := by decide +kernel
theorem dL_law_463 : decode mL_law.2.1 463 = .ok (.invokevirtual 45, 3) := by decide +kernel
theorem dL_law_466 : decode mL_law.2.1 466 = .ok (.aload_n 2, 1) := by decide +kernel
theorem dL_law_467 : decode mL_law.2.1 467 = .ok (.aload_n 0, 1) := by decide +kernel
theorem dL_law_468 : decode mL_law.2.1 468 = .ok (.iload_n 3, 1) := by decide +kernel
theorem dL_law_469 : decode mL_law.2.1 469 = .ok (.iconst 1, 1) := by decide +kernel
theorem dL_law_470 : decode mL_law.2.1 470 = .ok (.iadd, 1) := by decide +kernel
theorem dL_law_471 : decode mL_law.2.1 471 = .ok (.iaload, 1) := by decide +kernel
theorem dL_law_472 : decode mL_law.2.1 472 = .ok (.invokevirtual 48, 3) := by decide +kernel
theorem dL_law_475 : decode mL_law.2.1 475 = .ok (.if_icmp .eq 1015, 3) := by decide +kernel
theorem dL_law_478 : decode mL_law.2.1 478 = .ok (.iconst 0, 1) := by decide +kernel
theorem dL_law_479 : decode mL_law.2.1 479 = .ok (.ireturn, 1) := by decide +kernel
theorem dL_law_480 : decode mL_law.2.1 480 = .ok (.aload_n 1, 1) := by decide +kernel
theorem dL_law_481 : decode mL_law.2.1 481 = .ok (.aload_n 0, 1) := by decide +kernel
theorem dL_law_482 : decode mL_law.2.1 482 = .ok (.iload_n 3, 1) := by decide +kernel
theorem dL_law_483 : decode mL_law.2.1 483 = .ok (.iconst 1, 1) := by decide +kernel
theorem dL_law_484 : decode mL_law.2.1 484 = .ok (.iadd, 1) := by decide +kernel
theorem dL_law_485 : decode mL_law.2.1 485 = .ok (.iaload, 1) := by decide +kernel
theorem dL_law_486 : decode mL_law.2.1 486 = .ok (.aload_n 0, 1) := by decide +kernel
theorem dL_law_487 : decode mL_law.2.1 487 = .ok (.iload_n 3, 1) := by decide +kernel
theorem dL_law_488 : decode mL_law.2.1 488 = .ok (.iconst 2, 1) := by decide +kernel
theorem dL_law_489 : decode mL_law.2.1 489 = .ok (.iadd, 1) := by decide +kernel
theorem dL_law_490 : decode mL_law.2.1 490 = .ok (.iaload, 1) := by decide +kernel
theorem dL_law_491 : decode mL_law.2.1 491 = .ok (.aload_n 0, 1) := by decide +kernel
theorem dL_law_492 : decode mL_law.2.1 492 = .ok (.iload_n 3, 1) := by decide +kernel
theorem dL_law_493 : decode mL_law.2.1 493 = .ok (.iconst 3, 1) := by decide +kernel
theorem dL_law_494 : decode mL_law.2.1 494 = .ok (.iadd, 1) := by decide +kernel
theorem dL_law_495 : decode mL_law.2.1 495 = .ok (.iaload, 1) := by decide +kernel
theorem dL_law_496 : decode mL_law.2.1 496 = .ok (.invokevirtual 49, 3) := by decide +kernel
theorem dL_law_499 : decode mL_law.2.1 499 = .ok (.aload_n 2, 1) := by decide +kernel
theorem dL_law_500 : decode mL_law.2.1 500 = .ok (.aload_n 0, 1) := by decide +kernel
theorem dL_law_501 : decode mL_law.2.1 501 = .ok (.iload_n 3, 1) := by decide +kernel
theorem dL_law_502 : decode mL_law.2.1 502 = .ok (.iconst 1, 1) := by decide +kernel
theorem dL_law_503 : decode mL_law.2.1 503 = .ok (.iadd, 1) := by decide +kernel
theorem dL_law_504 : decode mL_law.2.1 504 = .ok (.iaload, 1) := by decide +kernel
theorem dL_law_505 : decode mL_law.2.1 505 = .ok (.aload_n 0, 1) := by decide +kernel
theorem dL_law_506 : decode mL_law.2.1 506 = .ok (.iload_n 3, 1) := by decide +kernel
theorem dL_law_507 : decode mL_law.2.1 507 = .ok (.iconst 2, 1) := by decide +kernel
theorem dL_law_508 : decode mL_law.2.1 508 = .ok (.iadd, 1) := by decide +kernel
theorem dL_law_509 : decode mL_law.2.1 509 = .ok (.iaload, 1) := by decide +kernel
theorem dL_law_510 : decode mL_law.2.1 510 = .ok (.aload_n 0, 1) := by decide +kernel
theorem dL_law_511 : decode mL_law.2.1 511 = .ok (.iload_n 3, 1) := by decide +kernel
theorem dL_law_512 : decode mL_law.2.1 512 = .ok (.iconst 3, 1) := by decide +kernel
theorem dL_law_513 : decode mL_law.2.1 513 = .ok (.iadd, 1) := by decide +kernel
theorem dL_law_514 : decode mL_law.2.1 514 = .ok (.iaload, 1) := by decide +kernel
theorem dL_law_515 : decode mL_law.2.1 515 = .ok (.invokevirtual 52, 3) := by decide +kernel
theorem dL_law_518 : decode mL_law.2.1 518 = .ok (.if_icmp .eq 972, 3) := by decide +kernel
theorem dL_law_521 : decode mL_law.2.1 521 = .ok (.iconst 0, 1) := by decide +kernel
theorem dL_law_522 : decode mL_law.2.1 522 = .ok (.ireturn, 1) := by decide +kernel
theorem dL_law_523 : decode mL_law.2.1 523 = .ok (.aload_n 1, 1) := by decide +kernel
theorem dL_law_524 : decode mL_law.2.1 524 = .ok (.aload_n 0, 1) := by decide +kernel
theorem dL_law_525 : decode mL_law.2.1 525 = .ok (.iload_n 3, 1) := by decide +kernel
theorem dL_law_526 : decode mL_law.2.1 526 = .ok (.iconst 1, 1) := by decide +kernel
theorem dL_law_527 : decode mL_law.2.1 527 = .ok (.iadd, 1) := by decide +kernel
theorem dL_law_528 : decode mL_law.2.1 528 = .ok (.iaload, 1) := by decide +kernel
theorem dL_law_529 : decode mL_law.2.1 529 = .ok (.aload_n 0, 1) := by decide +kernel
theorem dL_law_530 : decode mL_law.2.1 530 = .ok (.iload_n 3, 1) := by decide +kernel
theorem dL_law_531 : decode mL_law.2.1 531 = .ok (.iconst 2, 1) := by decide +kernel
theorem dL_law_532 : decode mL_law.2.1 532 = .ok (.iadd, 1) := by decide +kernel
theorem dL_law_533 : decode mL_law.2.1 533 = .ok (.iaload, 1) := by decide +kernel
theorem dL_law_534 : decode mL_law.2.1 534 = .ok (.invokevirtual 53, 3) := by decide +kernel
theorem dL_law_537 : decode mL_law.2.1 537 = .ok (.aload_n 2, 1) := by decide +kernel
theorem dL_law_538 : decode mL_law.2.1 538 = .ok (.aload_n 0, 1) := by decide +kernel
theorem dL_law_539 : decode mL_law.2.1 539 = .ok (.iload_n 3, 1) := by decide +kernel
theorem dL_law_540 : decode mL_law.2.1 540 = .ok (.iconst 1, 1) := by decide +kernel
theorem dL_law_541 : decode mL_law.2.1 541 = .ok (.iadd, 1) := by decide +kernel
theorem dL_law_542 : decode mL_law.2.1 542 = .ok (.iaload, 1) := by decide +kernel
theorem dL_law_543 : decode mL_law.2.1 543 = .ok (.aload_n 0, 1) := by decide +kernel
theorem dL_law_544 : decode mL_law.2.1 544 = .ok (.iload_n 3, 1) := by decide +kernel
theorem dL_law_545 : decode mL_law.2.1 545 = .ok (.iconst 2, 1) := by decide +kernel
theorem dL_law_546 : decode mL_law.2.1 546 = .ok (.iadd, 1) := by decide +kernel
theorem dL_law_547 : decode mL_law.2.1 547 = .ok (.iaload, 1) := by decide +kernel
theorem dL_law_548 : decode mL_law.2.1 548 = .ok (.invokevirtual 56, 3) := by decide +kernel
theorem dL_law_551 : decode mL_law.2.1 551 = .ok (.if_icmp .eq 939, 3) := by decide +kernel
theorem dL_law_554 : decode mL_law.2.1 554 = .ok (.iconst 0, 1) := by decide +kernel
theorem dL_law_555 : decode mL_law.2.1 555 = .ok (.ireturn, 1) := by decide +kernel
theorem dL_law_556 : decode mL_law.2.1 556 = .ok (.aload_n 1, 1) := by decide +kernel
theorem dL_law_557 : decode mL_law.2.1 557 = .ok (.aload_n 0, 1) := by decide +kernel
theorem dL_law_558 : decode mL_law.2.1 558 = .ok (.iload_n 3, 1) := by decide +kernel
theorem dL_law_559 : decode mL_law.2.1 559 = .ok (.iconst 1, 1) := by decide +kernel
theorem dL_law_560 : decode mL_law.2.1 560 = .ok (.iadd, 1) := by decide +kernel
theorem dL_law_561 : decode mL_law.2.1 561 = .ok (.iaload, 1) := by decide +kernel
theorem dL_law_562 : decode mL_law.2.1 562 = .ok (.invokevirtual 57, 3) := by decide +kernel
theorem dL_law_565 : decode mL_law.2.1 565 = .ok (.aload_n 2, 1) := by decide +kernel
theorem dL_law_566 : decode mL_law.2.1 566 = .ok (.aload_n 0, 1) := by decide +kernel
theorem dL_law_567 : decode mL_law.2.1 567 = .ok (.iload_n 3, 1) := by decide +kernel
theorem dL_law_568 : decode mL_law.2.1 568 = .ok (.iconst 1, 1) := by decide +kernel
theorem dL_law_569 : decode mL_law.2.1 569 = .ok (.iadd, 1) := by decide +kernel
theorem dL_law_570 : decode mL_law.2.1 570 = .ok (.iaload, 1) := by decide +kernel
theorem dL_law_571 : decode mL_law.2.1 571 = .ok (.invokevirtual 60, 3) := by decide +kernel
theorem dL_law_574 : decode mL_law.2.1 574 = .ok (.if_icmp .eq 916, 3) := by decide +kernel
theorem dL_law_577 : decode mL_law.2.1 577 = .ok (.iconst 0, 1) := by decide +kernel
theorem dL_law_578 : decode mL_law.2.1 578 = .ok (.ireturn, 1) := by decide +kernel
theorem dL_law_579 : decode mL_law.2.1 579 = .ok (.aload_n 1, 1) := by decide +kernel
theorem dL_law_580 : decode mL_law.2.1 580 = .ok (.aload_n 0, 1) := by decide +kernel
theorem dL_law_581 : decode mL_law.2.1 581 = .ok (.iload_n 3, 1) := by decide +kernel
theorem dL_law_582 : decode mL_law.2.1 582 = .ok (.iconst 1, 1) := by decide +kernel
theorem dL_law_583 : decode mL_law.2.1 583 = .ok (.iadd, 1) := by decide +kernel
theorem dL_law_584 : decode mL_law.2.1 584 = .ok (.iaload, 1) := by decide +kernel
theorem dL_law_585 : decode mL_law.2.1 585 = .ok (.aload_n 0, 1) := by decide +kernel
theorem dL_law_586 : decode mL_law.2.1 586 = .ok (.iload_n 3, 1) := by decide +kernel
theorem dL_law_587 : decode mL_law.2.1 587 = .ok (.iconst 2, 1) := by decide +kernel
theorem dL_law_588 : decode mL_law.2.1 588 = .ok (.iadd, 1) := by decide +kernel
theorem dL_law_589 : decode mL_law.2.1 589 = .ok (.iaload, 1) := by decide +kernel
theorem dL_law_590 : decode mL_law.2.1 590 = .ok (.invokevirtual 61, 3) := by decide +kernel
theorem dL_law_593 : decode mL_law.2.1 593 = .ok (.aload_n 2, 1) := by decide +kernel
theorem dL_law_594 : decode mL_law.2.1 594 = .ok (.aload_n 0, 1) := by decide +kernel
theorem dL_law_595 : decode mL_law.2.1 595 = .ok (.iload_n 3, 1) := by decide +kernel
theorem dL_law_596 : decode mL_law.2.1 596 = .ok (.iconst 1, 1) := by decide +kernel
theorem dL_law_597 : decode mL_law.2.1 597 = .ok (.iadd, 1) := by decide +kernel
theorem dL_law_598 : decode mL_law.2.1 598 = .ok (.iaload, 1) := by decide +kernel
theorem dL_law_599 : decode mL_law.2.1 599 = .ok (.aload_n 0, 1) := by decide +kernel
theorem dL_law_600 : decode mL_law.2.1 600 = .ok (.iload_n 3, 1) := by decide +kernel
theorem dL_law_601 : decode mL_law.2.1 601 = .ok (.iconst 2, 1) := by decide +kernel
theorem dL_law_602 : decode mL_law.2.1 602 = .ok (.iadd, 1) := by decide +kernel
theorem dL_law_603 : decode mL_law.2.1 603 = .ok (.iaload, 1) := by decide +kernel
theorem dL_law_604 : decode mL_law.2.1 604 = .ok (.invokevirtual 64, 3) := by decide +kernel
theorem dL_law_607 : decode mL_law.2.1 607 = .ok (.if_icmp .eq 883, 3) := by decide +kernel
theorem dL_law_610 : decode mL_law.2.1 610 = .ok (.iconst 0, 1) := by decide +kernel
theorem dL_law_611 : decode mL_law.2.1 611 = .ok (.ireturn, 1) := by decide +kernel
theorem dL_law_612 : decode mL_law.2.1 612 = .ok (.aload_n 1, 1) := by decide +kernel
theorem dL_law_613 : decode mL_law.2.1 613 = .ok (.aload_n 0, 1) := by decide +kernel
theorem dL_law_614 : decode mL_law.2.1 614 = .ok (.iload_n 3, 1) := by decide +kernel
theorem dL_law_615 : decode mL_law.2.1 615 = .ok (.iconst 1, 1) := by decide +kernel
theorem dL_law_616 : decode mL_law.2.1 616 = .ok (.iadd, 1) := by decide +kernel
theorem dL_law_617 : decode mL_law.2.1 617 = .ok (.iaload, 1) := by decide +kernel
theorem dL_law_618 : decode mL_law.2.1 618 = .ok (.invokevirtual 65, 3) := by decide +kernel
theorem dL_law_621 : decode mL_law.2.1 621 = .ok (.aload_n 2, 1) := by decide +kernel
theorem dL_law_622 : decode mL_law.2.1 622 = .ok (.aload_n 0, 1) := by decide +kernel
theorem dL_law_623 : decode mL_law.2.1 623 = .ok (.iload_n 3, 1) := by decide +kernel
theorem dL_law_624 : decode mL_law.2.1 624 = .ok (.iconst 1, 1) := by decide +kernel
theorem dL_law_625 : decode mL_law.2.1 625 = .ok (.iadd, 1) := by decide +kernel
theorem dL_law_626 : decode mL_law.2.1 626 = .ok (.iaload, 1) := by decide +kernel
theorem dL_law_627 : decode mL_law.2.1 627 = .ok (.invokevirtual 68, 3) := by decide +kernel
theorem dL_law_630 : decode mL_law.2.1 630 = .ok (.if_icmp .eq 860, 3) := by decide +kernel
theorem dL_law_633 : decode mL_law.2.1 633 = .ok (.iconst 0, 1) := by decide +kernel
theorem dL_law_634 : decode mL_law.2.1 634 = .ok (.ireturn, 1) := by decide +kernel
theorem dL_law_635 : decode mL_law.2.1 635 = .ok (.aload_n 1, 1) := by decide +kernel
theorem dL_law_636 : decode mL_law.2.1 636 = .ok (.aload_n 0, 1) := by decide +kernel
theorem dL_law_637 : decode mL_law.2.1 637 = .ok (.iload_n 3, 1) := by decide +kernel
theorem dL_law_638 : decode mL_law.2.1 638 = .ok (.iconst 1, 1) := by decide +kernel
theorem dL_law_639 : decode mL_law.2.1 639 = .ok (.iadd, 1) := by decide +kernel
theorem dL_law_640 : decode mL_law.2.1 640 = .ok (.iaload, 1) := by decide +kernel
theorem dL_law_641 : decode mL_law.2.1 641 = .ok (.aload_n 0, 1) := by decide +kernel
theorem dL_law_642 : decode mL_law.2.1 642 = .ok (.iload_n 3, 1) := by decide +kernel
theorem dL_law_643 : decode mL_law.2.1 643 = .ok (.iconst 2, 1) := by decide +kernel
theorem dL_law_644 : decode mL_law.2.1 644 = .ok (.iadd, 1) := by decide +kernel
theorem dL_law_645 : decode mL_law.2.1 645 = .ok (.iaload, 1) := by decide +kernel
theorem dL_law_646 : decode mL_law.2.1 646 = .ok (.aload_n 0, 1) := by decide +kernel
theorem dL_law_647 : decode mL_law.2.1 647 = .ok (.iload_n 3, 1) := by decide +kernel
theorem dL_law_648 : decode mL_law.2.1 648 = .ok (.iconst 3, 1) := by decide +kernel
theorem dL_law_649 : decode mL_law.2.1 649 = .ok (.iadd, 1) := by decide +kernel
theorem dL_law_650 : decode mL_law.2.1 650 = .ok (.iaload, 1) := by decide +kernel
theorem dL_law_651 : decode mL_law.2.1 651 = .ok (.invokevirtual 69, 3) := by decide +kernel
theorem dL_law_654 : decode mL_law.2.1 654 = .ok (.aload_n 2, 1) := by decide +kernel
theorem dL_law_655 : decode mL_law.2.1 655 = .ok (.aload_n 0, 1) := by decide +kernel
theorem dL_law_656 : decode mL_law.2.1 656 = .ok (.iload_n 3, 1) := by decide +kernel
theorem dL_law_657 : decode mL_law.2.1 657 = .ok (.iconst 1, 1) := by decide +kernel
theorem dL_law_658 : decode mL_law.2.1 658 = .ok (.iadd, 1) := by decide +kernel
theorem dL_law_659 : decode mL_law.2.1 659 = .ok (.iaload, 1) := by decide +kernel
theorem dL_law_660 : decode mL_law.2.1 660 = .ok (.aload_n 0, 1) := by decide +kernel
theorem dL_law_661 : decode mL_law.2.1 661 = .ok (.iload_n 3, 1) := by decide +kernel
theorem dL_law_662 : decode mL_law.2.1 662 = .ok (.iconst 2, 1) := by decide +kernel
theorem dL_law_663 : decode mL_law.2.1 663 = .ok (.iadd, 1) := by decide +kernel
theorem dL_law_664 : decode mL_law.2.1 664 = .ok (.iaload, 1) := by decide +kernel
theorem dL_law_665 : decode mL_law.2.1 665 = .ok (.aload_n 0, 1) := by decide +kernel
theorem dL_law_666 : decode mL_law.2.1 666 = .ok (.iload_n 3, 1) := by decide +kernel
theorem dL_law_667 : decode mL_law.2.1 667 = .ok (.iconst 3, 1) := by decide +kernel
theorem dL_law_668 : decode mL_law.2.1 668 = .ok (.iadd, 1) := by decide +kernel
theorem dL_law_669 : decode mL_law.2.1 669 = .ok (.iaload, 1) := by decide +kernel
theorem dL_law_670 : decode mL_law.2.1 670 = .ok (.invokevirtual 72, 3) := by decide +kernel
theorem dL_law_673 : decode mL_law.2.1 673 = .ok (.if_icmp .eq 817, 3) := by decide +kernel
theorem dL_law_676 : decode mL_law.2.1 676 = .ok (.iconst 0, 1) := by decide +kernel
theorem dL_law_677 : decode mL_law.2.1 677 = .ok (.ireturn, 1) := by decide +kernel
theorem dL_law_678 : decode mL_law.2.1 678 = .ok (.aload_n 1, 1) := by decide +kernel
theorem dL_law_679 : decode mL_law.2.1 679 = .ok (.aload_n 0, 1) := by decide +kernel
theorem dL_law_680 : decode mL_law.2.1 680 = .ok (.iload_n 3, 1) := by decide +kernel
theorem dL_law_681 : decode mL_law.2.1 681 = .ok (.iconst 1, 1) := by decide +kernel
theorem dL_law_682 : decode mL_law.2.1 682 = .ok (.iadd, 1) := by decide +kernel
theorem dL_law_683 : decode mL_law.2.1 683 = .ok (.iaload, 1) := by decide +kernel
theorem dL_law_684 : decode mL_law.2.1 684 = .ok (.invokevirtual 73, 3) := by decide +kernel
theorem dL_law_687 : decode mL_law.2.1 687 = .ok (.aload_n 2, 1) := by decide +kernel
theorem dL_law_688 : decode mL_law.2.1 688 = .ok (.aload_n 0, 1) := by decide +kernel
theorem dL_law_689 : decode mL_law.2.1 689 = .ok (.iload_n 3, 1) := by decide +kernel
theorem dL_law_690 : decode mL_law.2.1 690 = .ok (.iconst 1, 1) := by decide +kernel
theorem dL_law_691 : decode mL_law.2.1 691 = .ok (.iadd, 1) := by decide +kernel
theorem dL_law_692 : decode mL_law.2.1 692 = .ok (.iaload, 1) := by decide +kernel
theorem dL_law_693 : decode mL_law.2.1 693 = .ok (.invokevirtual 76, 3) := by decide +kernel
theorem dL_law_696 : decode mL_law.2.1 696 = .ok (.if_icmp .eq 794, 3) := by decide +kernel
theorem dL_law_699 : decode mL_law.2.1 699 = .ok (.iconst 0, 1) := by decide +kernel
theorem dL_law_700 : decode mL_law.2.1 700 = .ok (.ireturn, 1) := by decide +kernel
theorem dL_law_701 : decode mL_law.2.1 701 = .ok (.aload_n 1, 1) := by decide +kernel
theorem dL_law_702 : decode mL_law.2.1 702 = .ok (.aload_n 0, 1) := by decide +kernel
theorem dL_law_703 : decode mL_law.2.1 703 = .ok (.iload_n 3, 1) := by decide +kernel
theorem dL_law_704 : decode mL_law.2.1 704 = .ok (.iconst 1, 1) := by decide +kernel
theorem dL_law_705 : decode mL_law.2.1 705 = .ok (.iadd, 1) := by decide +kernel
theorem dL_law_706 : decode mL_law.2.1 706 = .ok (.iaload, 1) := by decide +kernel
theorem dL_law_707 : decode mL_law.2.1 707 = .ok (.aload_n 0, 1) := by decide +kernel
theorem dL_law_708 : decode mL_law.2.1 708 = .ok (.iload_n 3, 1) := by decide +kernel
theorem dL_law_709 : decode mL_law.2.1 709 = .ok (.iconst 2, 1) := by decide +kernel
theorem dL_law_710 : decode mL_law.2.1 710 = .ok (.iadd, 1) := by decide +kernel
theorem dL_law_711 : decode mL_law.2.1 711 = .ok (.iaload, 1) := by decide +kernel
theorem dL_law_712 : decode mL_law.2.1 712 = .ok (.invokevirtual 77, 3) := by decide +kernel
theorem dL_law_715 : decode mL_law.2.1 715 = .ok (.aload_n 2, 1) := by decide +kernel
theorem dL_law_716 : decode mL_law.2.1 716 = .ok (.aload_n 0, 1) := by decide +kernel
theorem dL_law_717 : decode mL_law.2.1 717 = .ok (.iload_n 3, 1) := by decide +kernel
theorem dL_law_718 : decode mL_law.2.1 718 = .ok (.iconst 1, 1) := by decide +kernel
theorem dL_law_719 : decode mL_law.2.1 719 = .ok (.iadd, 1) := by decide +kernel
theorem dL_law_720 : decode mL_law.2.1 720 = .ok (.iaload, 1) := by decide +kernel
theorem dL_law_721 : decode mL_law.2.1 721 = .ok (.aload_n 0, 1) := by decide +kernel
theorem dL_law_722 : decode mL_law.2.1 722 = .ok (.iload_n 3, 1) := by decide +kernel
theorem dL_law_723 : decode mL_law.2.1 723 = .ok (.iconst 2, 1) := by decide +kernel
theorem dL_law_724 : decode mL_law.2.1 724 = .ok (.iadd, 1) := by decide +kernel
theorem dL_law_725 : decode mL_law.2.1 725 = .ok (.iaload, 1) := by decide +kernel
theorem dL_law_726 : decode mL_law.2.1 726 = .ok (.invokevirtual 80, 3) := by decide +kernel
theorem dL_law_729 : decode mL_law.2.1 729 = .ok (.if_icmp .eq 761, 3) := by decide +kernel
theorem dL_law_732 : decode mL_law.2.1 732 = .ok (.iconst 0, 1) := by decide +kernel
theorem dL_law_733 : decode mL_law.2.1 733 = .ok (.ireturn, 1) := by decide +kernel
theorem dL_law_734 : decode mL_law.2.1 734 = .ok (.aload_n 1, 1) := by decide +kernel
theorem dL_law_735 : decode mL_law.2.1 735 = .ok (.aload_n 0, 1) := by decide +kernel
theorem dL_law_736 : decode mL_law.2.1 736 = .ok (.iload_n 3, 1) := by decide +kernel
theorem dL_law_737 : decode mL_law.2.1 737 = .ok (.iconst 1, 1) := by decide +kernel
theorem dL_law_738 : decode mL_law.2.1 738 = .ok (.iadd, 1) := by decide +kernel
theorem dL_law_739 : decode mL_law.2.1 739 = .ok (.iaload, 1) := by decide +kernel
theorem dL_law_740 : decode mL_law.2.1 740 = .ok (.aload_n 0, 1) := by decide +kernel
theorem dL_law_741 : decode mL_law.2.1 741 = .ok (.iload_n 3, 1) := by decide +kernel
theorem dL_law_742 : decode mL_law.2.1 742 = .ok (.iconst 2, 1) := by decide +kernel
theorem dL_law_743 : decode mL_law.2.1 743 = .ok (.iadd, 1) := by decide +kernel
theorem dL_law_744 : decode mL_law.2.1 744 = .ok (.iaload, 1) := by decide +kernel
theorem dL_law_745 : decode mL_law.2.1 745 = .ok (.invokevirtual 81, 3) := by decide +kernel
theorem dL_law_748 : decode mL_law.2.1 748 = .ok (.aload_n 2, 1) := by decide +kernel
theorem dL_law_749 : decode mL_law.2.1 749 = .ok (.aload_n 0, 1) := by decide +kernel
theorem dL_law_750 : decode mL_law.2.1 750 = .ok (.iload_n 3, 1) := by decide +kernel
theorem dL_law_751 : decode mL_law.2.1 751 = .ok (.iconst 1, 1) := by decide +kernel
theorem dL_law_752 : decode mL_law.2.1 752 = .ok (.iadd, 1) := by decide +kernel
theorem dL_law_753 : decode mL_law.2.1 753 = .ok (.iaload, 1) := by decide +kernel
theorem dL_law_754 : decode mL_law.2.1 754 = .ok (.aload_n 0, 1) := by decide +kernel
theorem dL_law_755 : decode mL_law.2.1 755 = .ok (.iload_n 3, 1) := by decide +kernel
theorem dL_law_756 : decode mL_law.2.1 756 = .ok (.iconst 2, 1) := by decide +kernel
theorem dL_law_757 : decode mL_law.2.1 757 = .ok (.iadd, 1) := by decide +kernel
theorem dL_law_758 : decode mL_law.2.1 758 = .ok (.iaload, 1) := by decide +kernel
theorem dL_law_759 : decode mL_law.2.1 759 = .ok (.invokevirtual 84, 3) := by decide +kernel
theorem dL_law_762 : decode mL_law.2.1 762 = .ok (.if_icmp .eq 728, 3) := by decide +kernel
theorem dL_law_765 : decode mL_law.2.1 765 = .ok (.iconst 0, 1) := by decide +kernel
theorem dL_law_766 : decode mL_law.2.1 766 = .ok (.ireturn, 1) := by decide +kernel
theorem dL_law_767 : decode mL_law.2.1 767 = .ok (.aload_n 1, 1) := by decide +kernel
theorem dL_law_768 : decode mL_law.2.1 768 = .ok (.aload_n 0, 1) := by decide +kernel
theorem dL_law_769 : decode mL_law.2.1 769 = .ok (.iload_n 3, 1) := by decide +kernel
theorem dL_law_770 : decode mL_law.2.1 770 = .ok (.iconst 1, 1) := by decide +kernel
theorem dL_law_771 : decode mL_law.2.1 771 = .ok (.iadd, 1) := by decide +kernel
theorem dL_law_772 : decode mL_law.2.1 772 = .ok (.iaload, 1) := by decide +kernel
theorem dL_law_773 : decode mL_law.2.1 773 = .ok (.aload_n 0, 1) := by decide +kernel
theorem dL_law_774 : decode mL_law.2.1 774 = .ok (.iload_n 3, 1) := by decide +kernel
theorem dL_law_775 : decode mL_law.2.1 775 = .ok (.iconst 2, 1) := by decide +kernel
theorem dL_law_776 : decode mL_law.2.1 776 = .ok (.iadd, 1) := by decide +kernel
theorem dL_law_777 : decode mL_law.2.1 777 = .ok (.iaload, 1) := by decide +kernel
theorem dL_law_778 : decode mL_law.2.1 778 = .ok (.invokevirtual 85, 3) := by decide +kernel
theorem dL_law_781 : decode mL_law.2.1 781 = .ok (.aload_n 2, 1) := by decide +kernel
theorem dL_law_782 : decode mL_law.2.1 782 = .ok (.aload_n 0, 1) := by decide +kernel
theorem dL_law_783 : decode mL_law.2.1 783 = .ok (.iload_n 3, 1) := by decide +kernel
theorem dL_law_784 : decode mL_law.2.1 784 = .ok (.iconst 1, 1) := by decide +kernel
theorem dL_law_785 : decode mL_law.2.1 785 = .ok (.iadd, 1) := by decide +kernel
theorem dL_law_786 : decode mL_law.2.1 786 = .ok (.iaload, 1) := by decide +kernel
theorem dL_law_787 : decode mL_law.2.1 787 = .ok (.aload_n 0, 1) := by decide +kernel
theorem dL_law_788 : decode mL_law.2.1 788 = .ok (.iload_n 3, 1) := by decide +kernel
theorem dL_law_789 : decode mL_law.2.1 789 = .ok (.iconst 2, 1) := by decide +kernel
theorem dL_law_790 : decode mL_law.2.1 790 = .ok (.iadd, 1) := by decide +kernel
theorem dL_law_791 : decode mL_law.2.1 791 = .ok (.iaload, 1) := by decide +kernel
theorem dL_law_792 : decode mL_law.2.1 792 = .ok (.invokevirtual 88, 3) := by decide +kernel
theorem dL_law_795 : decode mL_law.2.1 795 = .ok (.if_icmp .eq 695, 3) := by decide +kernel
theorem dL_law_798 : decode mL_law.2.1 798 = .ok (.iconst 0, 1) := by decide +kernel
theorem dL_law_799 : decode mL_law.2.1 799 = .ok (.ireturn, 1) := by decide +kernel
theorem dL_law_800 : decode mL_law.2.1 800 = .ok (.aload_n 1, 1) := by decide +kernel
theorem dL_law_801 : decode mL_law.2.1 801 = .ok (.aload_n 0, 1) := by decide +kernel
theorem dL_law_802 : decode mL_law.2.1 802 = .ok (.iload_n 3, 1) := by decide +kernel
theorem dL_law_803 : decode mL_law.2.1 803 = .ok (.iconst 1, 1) := by decide +kernel
theorem dL_law_804 : decode mL_law.2.1 804 = .ok (.iadd, 1) := by decide +kernel
theorem dL_law_805 : decode mL_law.2.1 805 = .ok (.iaload, 1) := by decide +kernel
theorem dL_law_806 : decode mL_law.2.1 806 = .ok (.aload_n 0, 1) := by decide +kernel
theorem dL_law_807 : decode mL_law.2.1 807 = .ok (.iload_n 3, 1) := by decide +kernel
theorem dL_law_808 : decode mL_law.2.1 808 = .ok (.iconst 2, 1) := by decide +kernel
theorem dL_law_809 : decode mL_law.2.1 809 = .ok (.iadd, 1) := by decide +kernel
theorem dL_law_810 : decode mL_law.2.1 810 = .ok (.iaload, 1) := by decide +kernel
theorem dL_law_811 : decode mL_law.2.1 811 = .ok (.invokevirtual 89, 3) := by decide +kernel
theorem dL_law_814 : decode mL_law.2.1 814 = .ok (.aload_n 2, 1) := by decide +kernel
theorem dL_law_815 : decode mL_law.2.1 815 = .ok (.aload_n 0, 1) := by decide +kernel
theorem dL_law_816 : decode mL_law.2.1 816 = .ok (.iload_n 3, 1) := by decide +kernel
theorem dL_law_817 : decode mL_law.2.1 817 = .ok (.iconst 1, 1) := by decide +kernel
theorem dL_law_818 : decode mL_law.2.1 818 = .ok (.iadd, 1) := by decide +kernel
theorem dL_law_819 : decode mL_law.2.1 819 = .ok (.iaload, 1) := by decide +kernel
theorem dL_law_820 : decode mL_law.2.1 820 = .ok (.aload_n 0, 1) := by decide +kernel
theorem dL_law_821 : decode mL_law.2.1 821 = .ok (.iload_n 3, 1) := by decide +kernel
theorem dL_law_822 : decode mL_law.2.1 822 = .ok (.iconst 2, 1) := by decide +kernel
theorem dL_law_823 : decode mL_law.2.1 823 = .ok (.iadd, 1) := by decide +kernel
theorem dL_law_824 : decode mL_law.2.1 824 = .ok (.iaload, 1) := by decide +kernel
theorem dL_law_825 : decode mL_law.2.1 825 = .ok (.invokevirtual 92, 3) := by decide +kernel
theorem dL_law_828 : decode mL_law.2.1 828 = .ok (.if_icmp .eq 662, 3) := by decide +kernel
theorem dL_law_831 : decode mL_law.2.1 831 = .ok (.iconst 0, 1) := by decide +kernel
theorem dL_law_832 : decode mL_law.2.1 832 = .ok (.ireturn, 1) := by decide +kernel
theorem dL_law_833 : decode mL_law.2.1 833 = .ok (.aload_n 1, 1) := by decide +kernel
theorem dL_law_834 : decode mL_law.2.1 834 = .ok (.aload_n 0, 1) := by decide +kernel
theorem dL_law_835 : decode mL_law.2.1 835 = .ok (.iload_n 3, 1) := by decide +kernel
theorem dL_law_836 : decode mL_law.2.1 836 = .ok (.iconst 1, 1) := by decide +kernel
theorem dL_law_837 : decode mL_law.2.1 837 = .ok (.iadd, 1) := by decide +kernel
theorem dL_law_838 : decode mL_law.2.1 838 = .ok (.iaload, 1) := by decide +kernel
theorem dL_law_839 : decode mL_law.2.1 839 = .ok (.aload_n 0, 1) := by decide +kernel
theorem dL_law_840 : decode mL_law.2.1 840 = .ok (.iload_n 3, 1) := by decide +kernel
theorem dL_law_841 : decode mL_law.2.1 841 = .ok (.iconst 2, 1) := by decide +kernel
theorem dL_law_842 : decode mL_law.2.1 842 = .ok (.iadd, 1) := by decide +kernel
theorem dL_law_843 : decode mL_law.2.1 843 = .ok (.iaload, 1) := by decide +kernel
theorem dL_law_844 : decode mL_law.2.1 844 = .ok (.aload_n 0, 1) := by decide +kernel
theorem dL_law_845 : decode mL_law.2.1 845 = .ok (.iload_n 3, 1) := by decide +kernel
theorem dL_law_846 : decode mL_law.2.1 846 = .ok (.iconst 3, 1) := by decide +kernel
theorem dL_law_847 : decode mL_law.2.1 847 = .ok (.iadd, 1) := by decide +kernel
theorem dL_law_848 : decode mL_law.2.1 848 = .ok (.iaload, 1) := by decide +kernel
theorem dL_law_849 : decode mL_law.2.1 849 = .ok (.aload_n 0, 1) := by decide +kernel
theorem dL_law_850 : decode mL_law.2.1 850 = .ok (.iload_n 3, 1) := by decide +kernel
theorem dL_law_851 : decode mL_law.2.1 851 = .ok (.iconst 4, 1) := by decide +kernel
theorem dL_law_852 : decode mL_law.2.1 852 = .ok (.iadd, 1) := by decide +kernel
theorem dL_law_853 : decode mL_law.2.1 853 = .ok (.iaload, 1) := by decide +kernel
theorem dL_law_854 : decode mL_law.2.1 854 = .ok (.invokevirtual 93, 3) := by decide +kernel
theorem dL_law_857 : decode mL_law.2.1 857 = .ok (.aload_n 2, 1) := by decide +kernel
theorem dL_law_858 : decode mL_law.2.1 858 = .ok (.aload_n 0, 1) := by decide +kernel
theorem dL_law_859 : decode mL_law.2.1 859 = .ok (.iload_n 3, 1) := by decide +kernel
theorem dL_law_860 : decode mL_law.2.1 860 = .ok (.iconst 1, 1) := by decide +kernel
theorem dL_law_861 : decode mL_law.2.1 861 = .ok (.iadd, 1) := by decide +kernel
theorem dL_law_862 : decode mL_law.2.1 862 = .ok (.iaload, 1) := by decide +kernel
theorem dL_law_863 : decode mL_law.2.1 863 = .ok (.aload_n 0, 1) := by decide +kernel
theorem dL_law_864 : decode mL_law.2.1 864 = .ok (.iload_n 3, 1) := by decide +kernel
theorem dL_law_865 : decode mL_law.2.1 865 = .ok (.iconst 2, 1) := by decide +kernel
theorem dL_law_866 : decode mL_law.2.1 866 = .ok (.iadd, 1) := by decide +kernel
theorem dL_law_867 : decode mL_law.2.1 867 = .ok (.iaload, 1) := by decide +kernel
theorem dL_law_868 : decode mL_law.2.1 868 = .ok (.aload_n 0, 1) := by decide +kernel
theorem dL_law_869 : decode mL_law.2.1 869 = .ok (.iload_n 3, 1) := by decide +kernel
theorem dL_law_870 : decode mL_law.2.1 870 = .ok (.iconst 3, 1) := by decide +kernel
theorem dL_law_871 : decode mL_law.2.1 871 = .ok (.iadd, 1) := by decide +kernel
theorem dL_law_872 : decode mL_law.2.1 872 = .ok (.iaload, 1) := by decide +kernel
theorem dL_law_873 : decode mL_law.2.1 873 = .ok (.aload_n 0, 1) := by decide +kernel
theorem dL_law_874 : decode mL_law.2.1 874 = .ok (.iload_n 3, 1) := by decide +kernel
theorem dL_law_875 : decode mL_law.2.1 875 = .ok (.iconst 4, 1) := by decide +kernel
theorem dL_law_876 : decode mL_law.2.1 876 = .ok (.iadd, 1) := by decide +kernel
theorem dL_law_877 : decode mL_law.2.1 877 = .ok (.iaload, 1) := by decide +kernel
theorem dL_law_878 : decode mL_law.2.1 878 = .ok (.invokevirtual 97, 3) := by decide +kernel
theorem dL_law_881 : decode mL_law.2.1 881 = .ok (.if_icmp .eq 609, 3) := by decide +kernel
theorem dL_law_884 : decode mL_law.2.1 884 = .ok (.iconst 0, 1) := by decide +kernel
theorem dL_law_885 : decode mL_law.2.1 885 = .ok (.ireturn, 1) := by decide +kernel
theorem dL_law_886 : decode mL_law.2.1 886 = .ok (.aload_n 1, 1) := by decide +kernel
theorem dL_law_887 : decode mL_law.2.1 887 = .ok (.aload_n 0, 1) := by decide +kernel
theorem dL_law_888 : decode mL_law.2.1 888 = .ok (.iload_n 3, 1) := by decide +kernel
theorem dL_law_889 : decode mL_law.2.1 889 = .ok (.iconst 1, 1) := by decide +kernel
theorem dL_law_890 : decode mL_law.2.1 890 = .ok (.iadd, 1) := by decide +kernel
theorem dL_law_891 : decode mL_law.2.1 891 = .ok (.iaload, 1) := by decide +kernel
theorem dL_law_892 : decode mL_law.2.1 892 = .ok (.i2l, 1) := by decide +kernel
theorem dL_law_893 : decode mL_law.2.1 893 = .ok (.bipush 32, 2) := by decide +kernel
theorem dL_law_895 : decode mL_law.2.1 895 = .ok (.lshl, 1) := by decide +kernel
theorem dL_law_896 : decode mL_law.2.1 896 = .ok (.aload_n 0, 1) := by decide +kernel
theorem dL_law_897 : decode mL_law.2.1 897 = .ok (.iload_n 3, 1) := by decide +kernel
theorem dL_law_898 : decode mL_law.2.1 898 = .ok (.iconst 2, 1) := by decide +kernel
theorem dL_law_899 : decode mL_law.2.1 899 = .ok (.iadd, 1) := by decide +kernel
theorem dL_law_900 : decode mL_law.2.1 900 = .ok (.iaload, 1) := by decide +kernel
theorem dL_law_901 : decode mL_law.2.1 901 = .ok (.i2l, 1) := by decide +kernel
theorem dL_law_902 : decode mL_law.2.1 902 = .ok (.ldc2_w 98, 3) := by decide +kernel
theorem dL_law_905 : decode mL_law.2.1 905 = .ok (.land, 1) := by decide +kernel
theorem dL_law_906 : decode mL_law.2.1 906 = .ok (.lor, 1) := by decide +kernel
theorem dL_law_907 : decode mL_law.2.1 907 = .ok (.aload_n 0, 1) := by decide +kernel
theorem dL_law_908 : decode mL_law.2.1 908 = .ok (.iload_n 3, 1) := by decide +kernel
theorem dL_law_909 : decode mL_law.2.1 909 = .ok (.iconst 3, 1) := by decide +kernel
theorem dL_law_910 : decode mL_law.2.1 910 = .ok (.iadd, 1) := by decide +kernel
theorem dL_law_911 : decode mL_law.2.1 911 = .ok (.iaload, 1) := by decide +kernel
theorem dL_law_912 : decode mL_law.2.1 912 = .ok (.invokevirtual 100, 3) := by decide +kernel
theorem dL_law_915 : decode mL_law.2.1 915 = .ok (.aload_n 2, 1) := by decide +kernel
theorem dL_law_916 : decode mL_law.2.1 916 = .ok (.aload_n 0, 1) := by decide +kernel
theorem dL_law_917 : decode mL_law.2.1 917 = .ok (.iload_n 3, 1) := by decide +kernel
theorem dL_law_918 : decode mL_law.2.1 918 = .ok (.iconst 1, 1) := by decide +kernel
theorem dL_law_919 : decode mL_law.2.1 919 = .ok (.iadd, 1) := by decide +kernel
theorem dL_law_920 : decode mL_law.2.1 920 = .ok (.iaload, 1) := by decide +kernel
theorem dL_law_921 : decode mL_law.2.1 921 = .ok (.i2l, 1) := by decide +kernel
theorem dL_law_922 : decode mL_law.2.1 922 = .ok (.bipush 32, 2) := by decide +kernel
theorem dL_law_924 : decode mL_law.2.1 924 = .ok (.lshl, 1) := by decide +kernel
theorem dL_law_925 : decode mL_law.2.1 925 = .ok (.aload_n 0, 1) := by decide +kernel
theorem dL_law_926 : decode mL_law.2.1 926 = .ok (.iload_n 3, 1) := by decide +kernel
theorem dL_law_927 : decode mL_law.2.1 927 = .ok (.iconst 2, 1) := by decide +kernel
theorem dL_law_928 : decode mL_law.2.1 928 = .ok (.iadd, 1) := by decide +kernel
theorem dL_law_929 : decode mL_law.2.1 929 = .ok (.iaload, 1) := by decide +kernel
theorem dL_law_930 : decode mL_law.2.1 930 = .ok (.i2l, 1) := by decide +kernel
theorem dL_law_931 : decode mL_law.2.1 931 = .ok (.ldc2_w 98, 3) := by decide +kernel
theorem dL_law_934 : decode mL_law.2.1 934 = .ok (.land, 1) := by decide +kernel
theorem dL_law_935 : decode mL_law.2.1 935 = .ok (.lor, 1) := by decide +kernel
theorem dL_law_936 : decode mL_law.2.1 936 = .ok (.aload_n 0, 1) := by decide +kernel
theorem dL_law_937 : decode mL_law.2.1 937 = .ok (.iload_n 3, 1) := by decide +kernel
theorem dL_law_938 : decode mL_law.2.1 938 = .ok (.iconst 3, 1) := by decide +kernel
theorem dL_law_939 : decode mL_law.2.1 939 = .ok (.iadd, 1) := by decide +kernel
theorem dL_law_940 : decode mL_law.2.1 940 = .ok (.iaload, 1) := by decide +kernel
theorem dL_law_941 : decode mL_law.2.1 941 = .ok (.invokevirtual 104, 3) := by decide +kernel
theorem dL_law_944 : decode mL_law.2.1 944 = .ok (.if_icmp .eq 546, 3) := by decide +kernel
theorem dL_law_947 : decode mL_law.2.1 947 = .ok (.iconst 0, 1) := by decide +kernel
theorem dL_law_948 : decode mL_law.2.1 948 = .ok (.ireturn, 1) := by decide +kernel
theorem dL_law_949 : decode mL_law.2.1 949 = .ok (.aload_n 1, 1) := by decide +kernel
theorem dL_law_950 : decode mL_law.2.1 950 = .ok (.aload_n 0, 1) := by decide +kernel
theorem dL_law_951 : decode mL_law.2.1 951 = .ok (.iload_n 3, 1) := by decide +kernel
theorem dL_law_952 : decode mL_law.2.1 952 = .ok (.iconst 1, 1) := by decide +kernel
theorem dL_law_953 : decode mL_law.2.1 953 = .ok (.iadd, 1) := by decide +kernel
theorem dL_law_954 : decode mL_law.2.1 954 = .ok (.iaload, 1) := by decide +kernel
theorem dL_law_955 : decode mL_law.2.1 955 = .ok (.aload_n 0, 1) := by decide +kernel
theorem dL_law_956 : decode mL_law.2.1 956 = .ok (.iload_n 3, 1) := by decide +kernel
theorem dL_law_957 : decode mL_law.2.1 957 = .ok (.iconst 2, 1) := by decide +kernel
theorem dL_law_958 : decode mL_law.2.1 958 = .ok (.iadd, 1) := by decide +kernel
theorem dL_law_959 : decode mL_law.2.1 959 = .ok (.iaload, 1) := by decide +kernel
theorem dL_law_960 : decode mL_law.2.1 960 = .ok (.invokevirtual 105, 3) := by decide +kernel
theorem dL_law_963 : decode mL_law.2.1 963 = .ok (.aload_n 2, 1) := by decide +kernel
theorem dL_law_964 : decode mL_law.2.1 964 = .ok (.aload_n 0, 1) := by decide +kernel
theorem dL_law_965 : decode mL_law.2.1 965 = .ok (.iload_n 3, 1) := by decide +kernel
theorem dL_law_966 : decode mL_law.2.1 966 = .ok (.iconst 1, 1) := by decide +kernel
theorem dL_law_967 : decode mL_law.2.1 967 = .ok (.iadd, 1) := by decide +kernel
theorem dL_law_968 : decode mL_law.2.1 968 = .ok (.iaload, 1) := by decide +kernel
theorem dL_law_969 : decode mL_law.2.1 969 = .ok (.aload_n 0, 1) := by decide +kernel
theorem dL_law_970 : decode mL_law.2.1 970 = .ok (.iload_n 3, 1) := by decide +kernel
theorem dL_law_971 : decode mL_law.2.1 971 = .ok (.iconst 2, 1) := by decide +kernel
theorem dL_law_972 : decode mL_law.2.1 972 = .ok (.iadd, 1) := by decide +kernel
theorem dL_law_973 : decode mL_law.2.1 973 = .ok (.iaload, 1) := by decide +kernel
theorem dL_law_974 : decode mL_law.2.1 974 = .ok (.invokevirtual 108, 3) := by decide +kernel
theorem dL_law_977 : decode mL_law.2.1 977 = .ok (.if_icmp .eq 513, 3) := by decide +kernel
theorem dL_law_980 : decode mL_law.2.1 980 = .ok (.iconst 0, 1) := by decide +kernel
theorem dL_law_981 : decode mL_law.2.1 981 = .ok (.ireturn, 1) := by decide +kernel
theorem dL_law_982 : decode mL_law.2.1 982 = .ok (.aload_n 1, 1) := by decide +kernel
theorem dL_law_983 : decode mL_law.2.1 983 = .ok (.aload_n 0, 1) := by decide +kernel
theorem dL_law_984 : decode mL_law.2.1 984 = .ok (.iload_n 3, 1) := by decide +kernel
theorem dL_law_985 : decode mL_law.2.1 985 = .ok (.iconst 1, 1) := by decide +kernel
theorem dL_law_986 : decode mL_law.2.1 986 = .ok (.iadd, 1) := by decide +kernel
theorem dL_law_987 : decode mL_law.2.1 987 = .ok (.iaload, 1) := by decide +kernel
theorem dL_law_988 : decode mL_law.2.1 988 = .ok (.aload_n 0, 1) := by decide +kernel
theorem dL_law_989 : decode mL_law.2.1 989 = .ok (.iload_n 3, 1) := by decide +kernel
theorem dL_law_990 : decode mL_law.2.1 990 = .ok (.iconst 2, 1) := by decide +kernel
theorem dL_law_991 : decode mL_law.2.1 991 = .ok (.iadd, 1) := by decide +kernel
theorem dL_law_992 : decode mL_law.2.1 992 = .ok (.iaload, 1) := by decide +kernel
theorem dL_law_993 : decode mL_law.2.1 993 = .ok (.invokevirtual 109, 3) := by decide +kernel
theorem dL_law_996 : decode mL_law.2.1 996 = .ok (.aload_n 2, 1) := by decide +kernel
theorem dL_law_997 : decode mL_law.2.1 997 = .ok (.aload_n 0, 1) := by decide +kernel
theorem dL_law_998 : decode mL_law.2.1 998 = .ok (.iload_n 3, 1) := by decide +kernel
theorem dL_law_999 : decode mL_law.2.1 999 = .ok (.iconst 1, 1) := by decide +kernel
theorem dL_law_1000 : decode mL_law.2.1 1000 = .ok (.iadd, 1) := by decide +kernel
theorem dL_law_1001 : decode mL_law.2.1 1001 = .ok (.iaload, 1) := by decide +kernel
theorem dL_law_1002 : decode mL_law.2.1 1002 = .ok (.aload_n 0, 1) := by decide +kernel
theorem dL_law_1003 : decode mL_law.2.1 1003 = .ok (.iload_n 3, 1) := by decide +kernel
theorem dL_law_1004 : decode mL_law.2.1 1004 = .ok (.iconst 2, 1) := by decide +kernel
theorem dL_law_1005 : decode mL_law.2.1 1005 = .ok (.iadd, 1) := by decide +kernel
theorem dL_law_1006 : decode mL_law.2.1 1006 = .ok (.iaload, 1) := by decide +kernel
theorem dL_law_1007 : decode mL_law.2.1 1007 = .ok (.invokevirtual 112, 3) := by decide +kernel
theorem dL_law_1010 : decode mL_law.2.1 1010 = .ok (.if_icmp .eq 480, 3) := by decide +kernel
theorem dL_law_1013 : decode mL_law.2.1 1013 = .ok (.iconst 0, 1) := by decide +kernel
theorem dL_law_1014 : decode mL_law.2.1 1014 = .ok (.ireturn, 1) := by decide +kernel
theorem dL_law_1015 : decode mL_law.2.1 1015 = .ok (.aload_n 1, 1) := by decide +kernel
theorem dL_law_1016 : decode mL_law.2.1 1016 = .ok (.aload_n 0, 1) := by decide +kernel
theorem dL_law_1017 : decode mL_law.2.1 1017 = .ok (.iload_n 3, 1) := by decide +kernel
theorem dL_law_1018 : decode mL_law.2.1 1018 = .ok (.iconst 1, 1) := by decide +kernel
theorem dL_law_1019 : decode mL_law.2.1 1019 = .ok (.iadd, 1) := by decide +kernel
theorem dL_law_1020 : decode mL_law.2.1 1020 = .ok (.iaload, 1) := by decide +kernel
theorem dL_law_1021 : decode mL_law.2.1 1021 = .ok (.aload_n 0, 1) := by decide +kernel
theorem dL_law_1022 : decode mL_law.2.1 1022 = .ok (.iload_n 3, 1) := by decide +kernel
theorem dL_law_1023 : decode mL_law.2.1 1023 = .ok (.iconst 2, 1) := by decide +kernel
theorem dL_law_1024 : decode mL_law.2.1 1024 = .ok (.iadd, 1) := by decide +kernel
theorem dL_law_1025 : decode mL_law.2.1 1025 = .ok (.iaload, 1) := by decide +kernel
theorem dL_law_1026 : decode mL_law.2.1 1026 = .ok (.invokevirtual 113, 3) := by decide +kernel
theorem dL_law_1029 : decode mL_law.2.1 1029 = .ok (.aload_n 2, 1) := by decide +kernel
theorem dL_law_1030 : decode mL_law.2.1 1030 = .ok (.aload_n 0, 1) := by decide +kernel
theorem dL_law_1031 : decode mL_law.2.1 1031 = .ok (.iload_n 3, 1) := by decide +kernel
theorem dL_law_1032 : decode mL_law.2.1 1032 = .ok (.iconst 1, 1) := by decide +kernel
theorem dL_law_1033 : decode mL_law.2.1 1033 = .ok (.iadd, 1) := by decide +kernel
theorem dL_law_1034 : decode mL_law.2.1 1034 = .ok (.iaload, 1) := by decide +kernel
theorem dL_law_1035 : decode mL_law.2.1 1035 = .ok (.aload_n 0, 1) := by decide +kernel
theorem dL_law_1036 : decode mL_law.2.1 1036 = .ok (.iload_n 3, 1) := by decide +kernel
theorem dL_law_1037 : decode mL_law.2.1 1037 = .ok (.iconst 2, 1) := by decide +kernel
theorem dL_law_1038 : decode mL_law.2.1 1038 = .ok (.iadd, 1) := by decide +kernel
theorem dL_law_1039 : decode mL_law.2.1 1039 = .ok (.iaload, 1) := by decide +kernel
theorem dL_law_1040 : decode mL_law.2.1 1040 = .ok (.invokevirtual 116, 3) := by decide +kernel
theorem dL_law_1043 : decode mL_law.2.1 1043 = .ok (.if_icmp .eq 447, 3) := by decide +kernel
theorem dL_law_1046 : decode mL_law.2.1 1046 = .ok (.iconst 0, 1) := by decide +kernel
theorem dL_law_1047 : decode mL_law.2.1 1047 = .ok (.ireturn, 1) := by decide +kernel
theorem dL_law_1048 : decode mL_law.2.1 1048 = .ok (.aload_n 1, 1) := by decide +kernel
theorem dL_law_1049 : decode mL_law.2.1 1049 = .ok (.aload_n 0, 1) := by decide +kernel
theorem dL_law_1050 : decode mL_law.2.1 1050 = .ok (.iload_n 3, 1) := by decide +kernel
theorem dL_law_1051 : decode mL_law.2.1 1051 = .ok (.iconst 1, 1) := by decide +kernel
theorem dL_law_1052 : decode mL_law.2.1 1052 = .ok (.iadd, 1) := by decide +kernel
theorem dL_law_1053 : decode mL_law.2.1 1053 = .ok (.iaload, 1) := by decide +kernel
theorem dL_law_1054 : decode mL_law.2.1 1054 = .ok (.invokevirtual 117, 3) := by decide +kernel
theorem dL_law_1057 : decode mL_law.2.1 1057 = .ok (.aload_n 2, 1) := by decide +kernel
theorem dL_law_1058 : decode mL_law.2.1 1058 = .ok (.aload_n 0, 1) := by decide +kernel
theorem dL_law_1059 : decode mL_law.2.1 1059 = .ok (.iload_n 3, 1) := by decide +kernel
theorem dL_law_1060 : decode mL_law.2.1 1060 = .ok (.iconst 1, 1) := by decide +kernel
theorem dL_law_1061 : decode mL_law.2.1 1061 = .ok (.iadd, 1) := by decide +kernel
theorem dL_law_1062 : decode mL_law.2.1 1062 = .ok (.iaload, 1) := by decide +kernel
theorem dL_law_1063 : decode mL_law.2.1 1063 = .ok (.invokevirtual 120, 3) := by decide +kernel
theorem dL_law_1066 : decode mL_law.2.1 1066 = .ok (.if_icmp .eq 424, 3) := by decide +kernel
theorem dL_law_1069 : decode mL_law.2.1 1069 = .ok (.iconst 0, 1) := by decide +kernel
theorem dL_law_1070 : decode mL_law.2.1 1070 = .ok (.ireturn, 1) := by decide +kernel
theorem dL_law_1071 : decode mL_law.2.1 1071 = .ok (.aload_n 1, 1) := by decide +kernel
theorem dL_law_1072 : decode mL_law.2.1 1072 = .ok (.aload_n 0, 1) := by decide +kernel
theorem dL_law_1073 : decode mL_law.2.1 1073 = .ok (.iload_n 3, 1) := by decide +kernel
theorem dL_law_1074 : decode mL_law.2.1 1074 = .ok (.iconst 1, 1) := by decide +kernel
theorem dL_law_1075 : decode mL_law.2.1 1075 = .ok (.iadd, 1) := by decide +kernel
theorem dL_law_1076 : decode mL_law.2.1 1076 = .ok (.iaload, 1) := by decide +kernel
theorem dL_law_1077 : decode mL_law.2.1 1077 = .ok (.aload_n 0, 1) := by decide +kernel
theorem dL_law_1078 : decode mL_law.2.1 1078 = .ok (.iload_n 3, 1) := by decide +kernel
theorem dL_law_1079 : decode mL_law.2.1 1079 = .ok (.iconst 2, 1) := by decide +kernel
theorem dL_law_1080 : decode mL_law.2.1 1080 = .ok (.iadd, 1) := by decide +kernel
theorem dL_law_1081 : decode mL_law.2.1 1081 = .ok (.iaload, 1) := by decide +kernel
theorem dL_law_1082 : decode mL_law.2.1 1082 = .ok (.aload_n 0, 1) := by decide +kernel
theorem dL_law_1083 : decode mL_law.2.1 1083 = .ok (.iload_n 3, 1) := by decide +kernel
theorem dL_law_1084 : decode mL_law.2.1 1084 = .ok (.iconst 3, 1) := by decide +kernel
theorem dL_law_1085 : decode mL_law.2.1 1085 = .ok (.iadd, 1) := by decide +kernel
theorem dL_law_1086 : decode mL_law.2.1 1086 = .ok (.iaload, 1) := by decide +kernel
theorem dL_law_1087 : decode mL_law.2.1 1087 = .ok (.invokevirtual 121, 3) := by decide +kernel
theorem dL_law_1090 : decode mL_law.2.1 1090 = .ok (.aload_n 2, 1) := by decide +kernel
theorem dL_law_1091 : decode mL_law.2.1 1091 = .ok (.aload_n 0, 1) := by decide +kernel
theorem dL_law_1092 : decode mL_law.2.1 1092 = .ok (.iload_n 3, 1) := by decide +kernel
theorem dL_law_1093 : decode mL_law.2.1 1093 = .ok (.iconst 1, 1) := by decide +kernel
theorem dL_law_1094 : decode mL_law.2.1 1094 = .ok (.iadd, 1) := by decide +kernel
theorem dL_law_1095 : decode mL_law.2.1 1095 = .ok (.iaload, 1) := by decide +kernel
theorem dL_law_1096 : decode mL_law.2.1 1096 = .ok (.aload_n 0, 1) := by decide +kernel
theorem dL_law_1097 : decode mL_law.2.1 1097 = .ok (.iload_n 3, 1) := by decide +kernel
theorem dL_law_1098 : decode mL_law.2.1 1098 = .ok (.iconst 2, 1) := by decide +kernel
theorem dL_law_1099 : decode mL_law.2.1 1099 = .ok (.iadd, 1) := by decide +kernel
theorem dL_law_1100 : decode mL_law.2.1 1100 = .ok (.iaload, 1) := by decide +kernel
theorem dL_law_1101 : decode mL_law.2.1 1101 = .ok (.aload_n 0, 1) := by decide +kernel
theorem dL_law_1102 : decode mL_law.2.1 1102 = .ok (.iload_n 3, 1) := by decide +kernel
theorem dL_law_1103 : decode mL_law.2.1 1103 = .ok (.iconst 3, 1) := by decide +kernel
theorem dL_law_1104 : decode mL_law.2.1 1104 = .ok (.iadd, 1) := by decide +kernel
theorem dL_law_1105 : decode mL_law.2.1 1105 = .ok (.iaload, 1) := by decide +kernel
theorem dL_law_1106 : decode mL_law.2.1 1106 = .ok (.invokevirtual 124, 3) := by decide +kernel
theorem dL_law_1109 : decode mL_law.2.1 1109 = .ok (.if_icmp .eq 381, 3) := by decide +kernel
theorem dL_law_1112 : decode mL_law.2.1 1112 = .ok (.iconst 0, 1) := by decide +kernel
theorem dL_law_1113 : decode mL_law.2.1 1113 = .ok (.ireturn, 1) := by decide +kernel
theorem dL_law_1114 : decode mL_law.2.1 1114 = .ok (.aload_n 1, 1) := by decide +kernel
theorem dL_law_1115 : decode mL_law.2.1 1115 = .ok (.invokevirtual 125, 3) := by decide +kernel
theorem dL_law_1118 : decode mL_law.2.1 1118 = .ok (.aload_n 2, 1) := by decide +kernel
theorem dL_law_1119 : decode mL_law.2.1 1119 = .ok (.invokevirtual 129, 3) := by decide +kernel
theorem dL_law_1122 : decode mL_law.2.1 1122 = .ok (.if_icmp .eq 368, 3) := by decide +kernel
theorem dL_law_1125 : decode mL_law.2.1 1125 = .ok (.iconst 0, 1) := by decide +kernel
theorem dL_law_1126 : decode mL_law.2.1 1126 = .ok (.ireturn, 1) := by decide +kernel
theorem dL_law_1127 : decode mL_law.2.1 1127 = .ok (.aload_n 1, 1) := by decide +kernel
theorem dL_law_1128 : decode mL_law.2.1 1128 = .ok (.aload_n 0, 1) := by decide +kernel
theorem dL_law_1129 : decode mL_law.2.1 1129 = .ok (.iload_n 3, 1) := by decide +kernel
theorem dL_law_1130 : decode mL_law.2.1 1130 = .ok (.iconst 1, 1) := by decide +kernel
theorem dL_law_1131 : decode mL_law.2.1 1131 = .ok (.iadd, 1) := by decide +kernel
theorem dL_law_1132 : decode mL_law.2.1 1132 = .ok (.iaload, 1) := by decide +kernel
theorem dL_law_1133 : decode mL_law.2.1 1133 = .ok (.aload_n 0, 1) := by decide +kernel
theorem dL_law_1134 : decode mL_law.2.1 1134 = .ok (.iload_n 3, 1) := by decide +kernel
theorem dL_law_1135 : decode mL_law.2.1 1135 = .ok (.iconst 2, 1) := by decide +kernel
theorem dL_law_1136 : decode mL_law.2.1 1136 = .ok (.iadd, 1) := by decide +kernel
theorem dL_law_1137 : decode mL_law.2.1 1137 = .ok (.iaload, 1) := by decide +kernel
theorem dL_law_1138 : decode mL_law.2.1 1138 = .ok (.invokevirtual 130, 3) := by decide +kernel
theorem dL_law_1141 : decode mL_law.2.1 1141 = .ok (.aload_n 2, 1) := by decide +kernel
theorem dL_law_1142 : decode mL_law.2.1 1142 = .ok (.aload_n 0, 1) := by decide +kernel
theorem dL_law_1143 : decode mL_law.2.1 1143 = .ok (.iload_n 3, 1) := by decide +kernel
theorem dL_law_1144 : decode mL_law.2.1 1144 = .ok (.iconst 1, 1) := by decide +kernel
theorem dL_law_1145 : decode mL_law.2.1 1145 = .ok (.iadd, 1) := by decide +kernel
theorem dL_law_1146 : decode mL_law.2.1 1146 = .ok (.iaload, 1) := by decide +kernel
theorem dL_law_1147 : decode mL_law.2.1 1147 = .ok (.aload_n 0, 1) := by decide +kernel
theorem dL_law_1148 : decode mL_law.2.1 1148 = .ok (.iload_n 3, 1) := by decide +kernel
theorem dL_law_1149 : decode mL_law.2.1 1149 = .ok (.iconst 2, 1) := by decide +kernel
theorem dL_law_1150 : decode mL_law.2.1 1150 = .ok (.iadd, 1) := by decide +kernel
theorem dL_law_1151 : decode mL_law.2.1 1151 = .ok (.iaload, 1) := by decide +kernel
theorem dL_law_1152 : decode mL_law.2.1 1152 = .ok (.invokevirtual 133, 3) := by decide +kernel
theorem dL_law_1155 : decode mL_law.2.1 1155 = .ok (.if_icmp .eq 335, 3) := by decide +kernel
theorem dL_law_1158 : decode mL_law.2.1 1158 = .ok (.iconst 0, 1) := by decide +kernel
theorem dL_law_1159 : decode mL_law.2.1 1159 = .ok (.ireturn, 1) := by decide +kernel
theorem dL_law_1160 : decode mL_law.2.1 1160 = .ok (.aload_n 1, 1) := by decide +kernel
theorem dL_law_1161 : decode mL_law.2.1 1161 = .ok (.aload_n 0, 1) := by decide +kernel
theorem dL_law_1162 : decode mL_law.2.1 1162 = .ok (.iload_n 3, 1) := by decide +kernel
theorem dL_law_1163 : decode mL_law.2.1 1163 = .ok (.iconst 1, 1) := by decide +kernel
theorem dL_law_1164 : decode mL_law.2.1 1164 = .ok (.iadd, 1) := by decide +kernel
theorem dL_law_1165 : decode mL_law.2.1 1165 = .ok (.iaload, 1) := by decide +kernel
theorem dL_law_1166 : decode mL_law.2.1 1166 = .ok (.aload_n 0, 1) := by decide +kernel
theorem dL_law_1167 : decode mL_law.2.1 1167 = .ok (.iload_n 3, 1) := by decide +kernel
theorem dL_law_1168 : decode mL_law.2.1 1168 = .ok (.iconst 2, 1) := by decide +kernel
theorem dL_law_1169 : decode mL_law.2.1 1169 = .ok (.iadd, 1) := by decide +kernel
theorem dL_law_1170 : decode mL_law.2.1 1170 = .ok (.iaload, 1) := by decide +kernel
theorem dL_law_1171 : decode mL_law.2.1 1171 = .ok (.aload_n 0, 1) := by decide +kernel
theorem dL_law_1172 : decode mL_law.2.1 1172 = .ok (.iload_n 3, 1) := by decide +kernel
theorem dL_law_1173 : decode mL_law.2.1 1173 = .ok (.iconst 3, 1) := by decide +kernel
theorem dL_law_1174 : decode mL_law.2.1 1174 = .ok (.iadd, 1) := by decide +kernel
theorem dL_law_1175 : decode mL_law.2.1 1175 = .ok (.iaload, 1) := by decide +kernel
theorem dL_law_1176 : decode mL_law.2.1 1176 = .ok (.invokevirtual 134, 3) := by decide +kernel
theorem dL_law_1179 : decode mL_law.2.1 1179 = .ok (.aload_n 2, 1) := by decide +kernel
theorem dL_law_1180 : decode mL_law.2.1 1180 = .ok (.aload_n 0, 1) := by decide +kernel
theorem dL_law_1181 : decode mL_law.2.1 1181 = .ok (.iload_n 3, 1) := by decide +kernel
theorem dL_law_1182 : decode mL_law.2.1 1182 = .ok (.iconst 1, 1) := by decide +kernel
theorem dL_law_1183 : decode mL_law.2.1 1183 = .ok (.iadd, 1) := by decide +kernel
theorem dL_law_1184 : decode mL_law.2.1 1184 = .ok (.iaload, 1) := by decide +kernel
theorem dL_law_1185 : decode mL_law.2.1 1185 = .ok (.aload_n 0, 1) := by decide +kernel
theorem dL_law_1186 : decode mL_law.2.1 1186 = .ok (.iload_n 3, 1) := by decide +kernel
theorem dL_law_1187 : decode mL_law.2.1 1187 = .ok (.iconst 2, 1) := by decide +kernel
theorem dL_law_1188 : decode mL_law.2.1 1188 = .ok (.iadd, 1) := by decide +kernel
theorem dL_law_1189 : decode mL_law.2.1 1189 = .ok (.iaload, 1) := by decide +kernel
theorem dL_law_1190 : decode mL_law.2.1 1190 = .ok (.aload_n 0, 1) := by decide +kernel
theorem dL_law_1191 : decode mL_law.2.1 1191 = .ok (.iload_n 3, 1) := by decide +kernel
theorem dL_law_1192 : decode mL_law.2.1 1192 = .ok (.iconst 3, 1) := by decide +kernel
theorem dL_law_1193 : decode mL_law.2.1 1193 = .ok (.iadd, 1) := by decide +kernel
theorem dL_law_1194 : decode mL_law.2.1 1194 = .ok (.iaload, 1) := by decide +kernel
theorem dL_law_1195 : decode mL_law.2.1 1195 = .ok (.invokevirtual 137, 3) := by decide +kernel
theorem dL_law_1198 : decode mL_law.2.1 1198 = .ok (.if_icmp .eq 292, 3) := by decide +kernel
theorem dL_law_1201 : decode mL_law.2.1 1201 = .ok (.iconst 0, 1) := by decide +kernel
theorem dL_law_1202 : decode mL_law.2.1 1202 = .ok (.ireturn, 1) := by decide +kernel
theorem dL_law_1203 : decode mL_law.2.1 1203 = .ok (.aload_n 1, 1) := by decide +kernel
theorem dL_law_1204 : decode mL_law.2.1 1204 = .ok (.aload_n 0, 1) := by decide +kernel
theorem dL_law_1205 : decode mL_law.2.1 1205 = .ok (.iload_n 3, 1) := by decide +kernel
theorem dL_law_1206 : decode mL_law.2.1 1206 = .ok (.iconst 1, 1) := by decide +kernel
theorem dL_law_1207 : decode mL_law.2.1 1207 = .ok (.iadd, 1) := by decide +kernel
theorem dL_law_1208 : decode mL_law.2.1 1208 = .ok (.iaload, 1) := by decide +kernel
theorem dL_law_1209 : decode mL_law.2.1 1209 = .ok (.aload_n 0, 1) := by decide +kernel
theorem dL_law_1210 : decode mL_law.2.1 1210 = .ok (.iload_n 3, 1) := by decide +kernel
theorem dL_law_1211 : decode mL_law.2.1 1211 = .ok (.iconst 2, 1) := by decide +kernel
theorem dL_law_1212 : decode mL_law.2.1 1212 = .ok (.iadd, 1) := by decide +kernel
theorem dL_law_1213 : decode mL_law.2.1 1213 = .ok (.iaload, 1) := by decide +kernel
theorem dL_law_1214 : decode mL_law.2.1 1214 = .ok (.aload_n 0, 1) := by decide +kernel
theorem dL_law_1215 : decode mL_law.2.1 1215 = .ok (.iload_n 3, 1) := by decide +kernel
theorem dL_law_1216 : decode mL_law.2.1 1216 = .ok (.iconst 3, 1) := by decide +kernel
theorem dL_law_1217 : decode mL_law.2.1 1217 = .ok (.iadd, 1) := by decide +kernel
theorem dL_law_1218 : decode mL_law.2.1 1218 = .ok (.iaload, 1) := by decide +kernel
theorem dL_law_1219 : decode mL_law.2.1 1219 = .ok (.invokevirtual 138, 3) := by decide +kernel
theorem dL_law_1222 : decode mL_law.2.1 1222 = .ok (.aload_n 2, 1) := by decide +kernel
theorem dL_law_1223 : decode mL_law.2.1 1223 = .ok (.aload_n 0, 1) := by decide +kernel
theorem dL_law_1224 : decode mL_law.2.1 1224 = .ok (.iload_n 3, 1) := by decide +kernel
theorem dL_law_1225 : decode mL_law.2.1 1225 = .ok (.iconst 1, 1) := by decide +kernel
theorem dL_law_1226 : decode mL_law.2.1 1226 = .ok (.iadd, 1) := by decide +kernel
theorem dL_law_1227 : decode mL_law.2.1 1227 = .ok (.iaload, 1) := by decide +kernel
theorem dL_law_1228 : decode mL_law.2.1 1228 = .ok (.aload_n 0, 1) := by decide +kernel
theorem dL_law_1229 : decode mL_law.2.1 1229 = .ok (.iload_n 3, 1) := by decide +kernel
theorem dL_law_1230 : decode mL_law.2.1 1230 = .ok (.iconst 2, 1) := by decide +kernel
theorem dL_law_1231 : decode mL_law.2.1 1231 = .ok (.iadd, 1) := by decide +kernel
theorem dL_law_1232 : decode mL_law.2.1 1232 = .ok (.iaload, 1) := by decide +kernel
theorem dL_law_1233 : decode mL_law.2.1 1233 = .ok (.aload_n 0, 1) := by decide +kernel
theorem dL_law_1234 : decode mL_law.2.1 1234 = .ok (.iload_n 3, 1) := by decide +kernel
theorem dL_law_1235 : decode mL_law.2.1 1235 = .ok (.iconst 3, 1) := by decide +kernel
theorem dL_law_1236 : decode mL_law.2.1 1236 = .ok (.iadd, 1) := by decide +kernel
theorem dL_law_1237 : decode mL_law.2.1 1237 = .ok (.iaload, 1) := by decide +kernel
theorem dL_law_1238 : decode mL_law.2.1 1238 = .ok (.invokevirtual 141, 3) := by decide +kernel
theorem dL_law_1241 : decode mL_law.2.1 1241 = .ok (.if_icmp .eq 249, 3) := by decide +kernel
theorem dL_law_1244 : decode mL_law.2.1 1244 = .ok (.iconst 0, 1) := by decide +kernel
theorem dL_law_1245 : decode mL_law.2.1 1245 = .ok (.ireturn, 1) := by decide +kernel
theorem dL_law_1246 : decode mL_law.2.1 1246 = .ok (.aload_n 1, 1) := by decide +kernel
theorem dL_law_1247 : decode mL_law.2.1 1247 = .ok (.aload_n 0, 1) := by decide +kernel
theorem dL_law_1248 : decode mL_law.2.1 1248 = .ok (.iload_n 3, 1) := by decide +kernel
theorem dL_law_1249 : decode mL_law.2.1 1249 = .ok (.iconst 1, 1) := by decide +kernel
theorem dL_law_1250 : decode mL_law.2.1 1250 = .ok (.iadd, 1) := by decide +kernel
theorem dL_law_1251 : decode mL_law.2.1 1251 = .ok (.iaload, 1) := by decide +kernel
theorem dL_law_1252 : decode mL_law.2.1 1252 = .ok (.invokevirtual 142, 3) := by decide +kernel
theorem dL_law_1255 : decode mL_law.2.1 1255 = .ok (.aload_n 2, 1) := by decide +kernel
theorem dL_law_1256 : decode mL_law.2.1 1256 = .ok (.aload_n 0, 1) := by decide +kernel
theorem dL_law_1257 : decode mL_law.2.1 1257 = .ok (.iload_n 3, 1) := by decide +kernel
theorem dL_law_1258 : decode mL_law.2.1 1258 = .ok (.iconst 1, 1) := by decide +kernel
theorem dL_law_1259 : decode mL_law.2.1 1259 = .ok (.iadd, 1) := by decide +kernel
theorem dL_law_1260 : decode mL_law.2.1 1260 = .ok (.iaload, 1) := by decide +kernel
theorem dL_law_1261 : decode mL_law.2.1 1261 = .ok (.invokevirtual 145, 3) := by decide +kernel
theorem dL_law_1264 : decode mL_law.2.1 1264 = .ok (.if_icmp .eq 226, 3) := by decide +kernel
theorem dL_law_1267 : decode mL_law.2.1 1267 = .ok (.iconst 0, 1) := by decide +kernel
theorem dL_law_1268 : decode mL_law.2.1 1268 = .ok (.ireturn, 1) := by decide +kernel
theorem dL_law_1269 : decode mL_law.2.1 1269 = .ok (.aload_n 1, 1) := by decide +kernel
theorem dL_law_1270 : decode mL_law.2.1 1270 = .ok (.aload_n 0, 1) := by decide +kernel
theorem dL_law_1271 : decode mL_law.2.1 1271 = .ok (.iload_n 3, 1) := by decide +kernel
theorem dL_law_1272 : decode mL_law.2.1 1272 = .ok (.iconst 1, 1) := by decide +kernel
theorem dL_law_1273 : decode mL_law.2.1 1273 = .ok (.iadd, 1) := by decide +kernel
theorem dL_law_1274 : decode mL_law.2.1 1274 = .ok (.iaload, 1) := by decide +kernel
theorem dL_law_1275 : decode mL_law.2.1 1275 = .ok (.aload_n 0, 1) := by decide +kernel
theorem dL_law_1276 : decode mL_law.2.1 1276 = .ok (.iload_n 3, 1) := by decide +kernel
theorem dL_law_1277 : decode mL_law.2.1 1277 = .ok (.iconst 2, 1) := by decide +kernel
theorem dL_law_1278 : decode mL_law.2.1 1278 = .ok (.iadd, 1) := by decide +kernel
theorem dL_law_1279 : decode mL_law.2.1 1279 = .ok (.iaload, 1) := by decide +kernel
theorem dL_law_1280 : decode mL_law.2.1 1280 = .ok (.aload_n 0, 1) := by decide +kernel
theorem dL_law_1281 : decode mL_law.2.1 1281 = .ok (.iload_n 3, 1) := by decide +kernel
theorem dL_law_1282 : decode mL_law.2.1 1282 = .ok (.iconst 3, 1) := by decide +kernel
theorem dL_law_1283 : decode mL_law.2.1 1283 = .ok (.iadd, 1) := by decide +kernel
theorem dL_law_1284 : decode mL_law.2.1 1284 = .ok (.iaload, 1) := by decide +kernel
theorem dL_law_1285 : decode mL_law.2.1 1285 = .ok (.invokevirtual 146, 3) := by decide +kernel
theorem dL_law_1288 : decode mL_law.2.1 1288 = .ok (.aload_n 2, 1) := by decide +kernel
theorem dL_law_1289 : decode mL_law.2.1 1289 = .ok (.aload_n 0, 1) := by decide +kernel
theorem dL_law_1290 : decode mL_law.2.1 1290 = .ok (.iload_n 3, 1) := by decide +kernel
theorem dL_law_1291 : decode mL_law.2.1 1291 = .ok (.iconst 1, 1) := by decide +kernel
theorem dL_law_1292 : decode mL_law.2.1 1292 = .ok (.iadd, 1) := by decide +kernel
theorem dL_law_1293 : decode mL_law.2.1 1293 = .ok (.iaload, 1) := by decide +kernel
theorem dL_law_1294 : decode mL_law.2.1 1294 = .ok (.aload_n 0, 1) := by decide +kernel
theorem dL_law_1295 : decode mL_law.2.1 1295 = .ok (.iload_n 3, 1) := by decide +kernel
theorem dL_law_1296 : decode mL_law.2.1 1296 = .ok (.iconst 2, 1) := by decide +kernel
theorem dL_law_1297 : decode mL_law.2.1 1297 = .ok (.iadd, 1) := by decide +kernel
theorem dL_law_1298 : decode mL_law.2.1 1298 = .ok (.iaload, 1) := by decide +kernel
theorem dL_law_1299 : decode mL_law.2.1 1299 = .ok (.aload_n 0, 1) := by decide +kernel
theorem dL_law_1300 : decode mL_law.2.1 1300 = .ok (.iload_n 3, 1) := by decide +kernel
theorem dL_law_1301 : decode mL_law.2.1 1301 = .ok (.iconst 3, 1) := by decide +kernel
theorem dL_law_1302 : decode mL_law.2.1 1302 = .ok (.iadd, 1) := by decide +kernel
theorem dL_law_1303 : decode mL_law.2.1 1303 = .ok (.iaload, 1) := by decide +kernel
theorem dL_law_1304 : decode mL_law.2.1 1304 = .ok (.invokevirtual 149, 3) := by decide +kernel
theorem dL_law_1307 : decode mL_law.2.1 1307 = .ok (.if_icmp .eq 183, 3) := by decide +kernel
theorem dL_law_1310 : decode mL_law.2.1 1310 = .ok (.iconst 0, 1) := by decide +kernel
theorem dL_law_1311 : decode mL_law.2.1 1311 = .ok (.ireturn, 1) := by decide +kernel
theorem dL_law_1312 : decode mL_law.2.1 1312 = .ok (.aload_n 1, 1) := by decide +kernel
theorem dL_law_1313 : decode mL_law.2.1 1313 = .ok (.aload_n 0, 1) := by decide +kernel
theorem dL_law_1314 : decode mL_law.2.1 1314 = .ok (.iload_n 3, 1) := by decide +kernel
theorem dL_law_1315 : decode mL_law.2.1 1315 = .ok (.iconst 1, 1) := by decide +kernel
theorem dL_law_1316 : decode mL_law.2.1 1316 = .ok (.iadd, 1) := by decide +kernel
theorem dL_law_1317 : decode mL_law.2.1 1317 = .ok (.iaload, 1) := by decide +kernel
theorem dL_law_1318 : decode mL_law.2.1 1318 = .ok (.aload_n 0, 1) := by decide +kernel
theorem dL_law_1319 : decode mL_law.2.1 1319 = .ok (.iload_n 3, 1) := by decide +kernel
theorem dL_law_1320 : decode mL_law.2.1 1320 = .ok (.iconst 2, 1) := by decide +kernel
theorem dL_law_1321 : decode mL_law.2.1 1321 = .ok (.iadd, 1) := by decide +kernel
theorem dL_law_1322 : decode mL_law.2.1 1322 = .ok (.iaload, 1) := by decide +kernel
theorem dL_law_1323 : decode mL_law.2.1 1323 = .ok (.aload_n 0, 1) := by decide +kernel
theorem dL_law_1324 : decode mL_law.2.1 1324 = .ok (.iload_n 3, 1) := by decide +kernel
theorem dL_law_1325 : decode mL_law.2.1 1325 = .ok (.iconst 3, 1) := by decide +kernel
theorem dL_law_1326 : decode mL_law.2.1 1326 = .ok (.iadd, 1) := by decide +kernel
theorem dL_law_1327 : decode mL_law.2.1 1327 = .ok (.iaload, 1) := by decide +kernel
theorem dL_law_1328 : decode mL_law.2.1 1328 = .ok (.invokevirtual 150, 3) := by decide +kernel
theorem dL_law_1331 : decode mL_law.2.1 1331 = .ok (.aload_n 2, 1) := by decide +kernel
theorem dL_law_1332 : decode mL_law.2.1 1332 = .ok (.aload_n 0, 1) := by decide +kernel
theorem dL_law_1333 : decode mL_law.2.1 1333 = .ok (.iload_n 3, 1) := by decide +kernel
theorem dL_law_1334 : decode mL_law.2.1 1334 = .ok (.iconst 1, 1) := by decide +kernel
theorem dL_law_1335 : decode mL_law.2.1 1335 = .ok (.iadd, 1) := by decide +kernel
theorem dL_law_1336 : decode mL_law.2.1 1336 = .ok (.iaload, 1) := by decide +kernel
theorem dL_law_1337 : decode mL_law.2.1 1337 = .ok (.aload_n 0, 1) := by decide +kernel
theorem dL_law_1338 : decode mL_law.2.1 1338 = .ok (.iload_n 3, 1) := by decide +kernel
theorem dL_law_1339 : decode mL_law.2.1 1339 = .ok (.iconst 2, 1) := by decide +kernel
theorem dL_law_1340 : decode mL_law.2.1 1340 = .ok (.iadd, 1) := by decide +kernel
theorem dL_law_1341 : decode mL_law.2.1 1341 = .ok (.iaload, 1) := by decide +kernel
theorem dL_law_1342 : decode mL_law.2.1 1342 = .ok (.aload_n 0, 1) := by decide +kernel
theorem dL_law_1343 : decode mL_law.2.1 1343 = .ok (.iload_n 3, 1) := by decide +kernel
theorem dL_law_1344 : decode mL_law.2.1 1344 = .ok (.iconst 3, 1) := by decide +kernel
theorem dL_law_1345 : decode mL_law.2.1 1345 = .ok (.iadd, 1) := by decide +kernel
theorem dL_law_1346 : decode mL_law.2.1 1346 = .ok (.iaload, 1) := by decide +kernel
theorem dL_law_1347 : decode mL_law.2.1 1347 = .ok (.invokevirtual 153, 3) := by decide +kernel
theorem dL_law_1350 : decode mL_law.2.1 1350 = .ok (.if_icmp .eq 140, 3) := by decide +kernel
theorem dL_law_1353 : decode mL_law.2.1 1353 = .ok (.iconst 0, 1) := by decide +kernel
theorem dL_law_1354 : decode mL_law.2.1 1354 = .ok (.ireturn, 1) := by decide +kernel
theorem dL_law_1355 : decode mL_law.2.1 1355 = .ok (.aload_n 1, 1) := by decide +kernel
theorem dL_law_1356 : decode mL_law.2.1 1356 = .ok (.aload_n 0, 1) := by decide +kernel
theorem dL_law_1357 : decode mL_law.2.1 1357 = .ok (.iload_n 3, 1) := by decide +kernel
theorem dL_law_1358 : decode mL_law.2.1 1358 = .ok (.iconst 1, 1) := by decide +kernel
theorem dL_law_1359 : decode mL_law.2.1 1359 = .ok (.iadd, 1) := by decide +kernel
theorem dL_law_1360 : decode mL_law.2.1 1360 = .ok (.iaload, 1) := by decide +kernel
theorem dL_law_1361 : decode mL_law.2.1 1361 = .ok (.aload_n 0, 1) := by decide +kernel
theorem dL_law_1362 : decode mL_law.2.1 1362 = .ok (.iload_n 3, 1) := by decide +kernel
theorem dL_law_1363 : decode mL_law.2.1 1363 = .ok (.iconst 2, 1) := by decide +kernel
theorem dL_law_1364 : decode mL_law.2.1 1364 = .ok (.iadd, 1) := by decide +kernel
theorem dL_law_1365 : decode mL_law.2.1 1365 = .ok (.iaload, 1) := by decide +kernel
theorem dL_law_1366 : decode mL_law.2.1 1366 = .ok (.aload_n 0, 1) := by decide +kernel
theorem dL_law_1367 : decode mL_law.2.1 1367 = .ok (.iload_n 3, 1) := by decide +kernel
theorem dL_law_1368 : decode mL_law.2.1 1368 = .ok (.iconst 3, 1) := by decide +kernel
theorem dL_law_1369 : decode mL_law.2.1 1369 = .ok (.iadd, 1) := by decide +kernel
theorem dL_law_1370 : decode mL_law.2.1 1370 = .ok (.iaload, 1) := by decide +kernel
theorem dL_law_1371 : decode mL_law.2.1 1371 = .ok (.aload_n 0, 1) := by decide +kernel
theorem dL_law_1372 : decode mL_law.2.1 1372 = .ok (.iload_n 3, 1) := by decide +kernel
theorem dL_law_1373 : decode mL_law.2.1 1373 = .ok (.iconst 4, 1) := by decide +kernel
theorem dL_law_1374 : decode mL_law.2.1 1374 = .ok (.iadd, 1) := by decide +kernel
theorem dL_law_1375 : decode mL_law.2.1 1375 = .ok (.iaload, 1) := by decide +kernel
theorem dL_law_1376 : decode mL_law.2.1 1376 = .ok (.aload_n 0, 1) := by decide +kernel
theorem dL_law_1377 : decode mL_law.2.1 1377 = .ok (.iload_n 3, 1) := by decide +kernel
theorem dL_law_1378 : decode mL_law.2.1 1378 = .ok (.iconst 5, 1) := by decide +kernel
theorem dL_law_1379 : decode mL_law.2.1 1379 = .ok (.iadd, 1) := by decide +kernel
theorem dL_law_1380 : decode mL_law.2.1 1380 = .ok (.iaload, 1) := by decide +kernel
theorem dL_law_1381 : decode mL_law.2.1 1381 = .ok (.invokevirtual 154, 3) := by decide +kernel
theorem dL_law_1384 : decode mL_law.2.1 1384 = .ok (.aload_n 2, 1) := by decide +kernel
theorem dL_law_1385 : decode mL_law.2.1 1385 = .ok (.aload_n 0, 1) := by decide +kernel
theorem dL_law_1386 : decode mL_law.2.1 1386 = .ok (.iload_n 3, 1) := by decide +kernel
theorem dL_law_1387 : decode mL_law.2.1 1387 = .ok (.iconst 1, 1) := by decide +kernel
theorem dL_law_1388 : decode mL_law.2.1 1388 = .ok (.iadd, 1) := by decide +kernel
theorem dL_law_1389 : decode mL_law.2.1 1389 = .ok (.iaload, 1) := by decide +kernel
theorem dL_law_1390 : decode mL_law.2.1 1390 = .ok (.aload_n 0, 1) := by decide +kernel
theorem dL_law_1391 : decode mL_law.2.1 1391 = .ok (.iload_n 3, 1) := by decide +kernel
theorem dL_law_1392 : decode mL_law.2.1 1392 = .ok (.iconst 2, 1) := by decide +kernel
theorem dL_law_1393 : decode mL_law.2.1 1393 = .ok (.iadd, 1) := by decide +kernel
theorem dL_law_1394 : decode mL_law.2.1 1394 = .ok (.iaload, 1) := by decide +kernel
theorem dL_law_1395 : decode mL_law.2.1 1395 = .ok (.aload_n 0, 1) := by decide +kernel
theorem dL_law_1396 : decode mL_law.2.1 1396 = .ok (.iload_n 3, 1) := by decide +kernel
theorem dL_law_1397 : decode mL_law.2.1 1397 = .ok (.iconst 3, 1) := by decide +kernel
theorem dL_law_1398 : decode mL_law.2.1 1398 = .ok (.iadd, 1) := by decide +kernel
theorem dL_law_1399 : decode mL_law.2.1 1399 = .ok (.iaload, 1) := by decide +kernel
theorem dL_law_1400 : decode mL_law.2.1 1400 = .ok (.aload_n 0, 1) := by decide +kernel
theorem dL_law_1401 : decode mL_law.2.1 1401 = .ok (.iload_n 3, 1) := by decide +kernel
theorem dL_law_1402 : decode mL_law.2.1 1402 = .ok (.iconst 4, 1) := by decide +kernel
theorem dL_law_1403 : decode mL_law.2.1 1403 = .ok (.iadd, 1) := by decide +kernel
theorem dL_law_1404 : decode mL_law.2.1 1404 = .ok (.iaload, 1) := by decide +kernel
theorem dL_law_1405 : decode mL_law.2.1 1405 = .ok (.aload_n 0, 1) := by decide +kernel
theorem dL_law_1406 : decode mL_law.2.1 1406 = .ok (.iload_n 3, 1) := by decide +kernel
theorem dL_law_1407 : decode mL_law.2.1 1407 = .ok (.iconst 5, 1) := by decide +kernel
theorem dL_law_1408 : decode mL_law.2.1 1408 = .ok (.iadd, 1) := by decide +kernel
theorem dL_law_1409 : decode mL_law.2.1 1409 = .ok (.iaload, 1) := by decide +kernel
theorem dL_law_1410 : decode mL_law.2.1 1410 = .ok (.invokevirtual 158, 3) := by decide +kernel
theorem dL_law_1413 : decode mL_law.2.1 1413 = .ok (.if_icmp .eq 77, 3) := by decide +kernel
theorem dL_law_1416 : decode mL_law.2.1 1416 = .ok (.iconst 0, 1) := by decide +kernel
theorem dL_law_1417 : decode mL_law.2.1 1417 = .ok (.ireturn, 1) := by decide +kernel
theorem dL_law_1418 : decode mL_law.2.1 1418 = .ok (.aload_n 1, 1) := by decide +kernel
theorem dL_law_1419 : decode mL_law.2.1 1419 = .ok (.invokevirtual 159, 3) := by decide +kernel
theorem dL_law_1422 : decode mL_law.2.1 1422 = .ok (.aload_n 2, 1) := by decide +kernel
theorem dL_law_1423 : decode mL_law.2.1 1423 = .ok (.invokevirtual 162, 3) := by decide +kernel
theorem dL_law_1426 : decode mL_law.2.1 1426 = .ok (.if_icmp .eq 64, 3) := by decide +kernel
theorem dL_law_1429 : decode mL_law.2.1 1429 = .ok (.iconst 0, 1) := by decide +kernel
theorem dL_law_1430 : decode mL_law.2.1 1430 = .ok (.ireturn, 1) := by decide +kernel
theorem dL_law_1431 : decode mL_law.2.1 1431 = .ok (.aload_n 1, 1) := by decide +kernel
theorem dL_law_1432 : decode mL_law.2.1 1432 = .ok (.invokevirtual 163, 3) := by decide +kernel
theorem dL_law_1435 : decode mL_law.2.1 1435 = .ok (.aload_n 2, 1) := by decide +kernel
theorem dL_law_1436 : decode mL_law.2.1 1436 = .ok (.invokevirtual 166, 3) := by decide +kernel
theorem dL_law_1439 : decode mL_law.2.1 1439 = .ok (.if_icmp .eq 51, 3) := by decide +kernel
theorem dL_law_1442 : decode mL_law.2.1 1442 = .ok (.iconst 0, 1) := by decide +kernel
theorem dL_law_1443 : decode mL_law.2.1 1443 = .ok (.ireturn, 1) := by decide +kernel
theorem dL_law_1444 : decode mL_law.2.1 1444 = .ok (.aload_n 1, 1) := by decide +kernel
theorem dL_law_1445 : decode mL_law.2.1 1445 = .ok (.aload_n 0, 1) := by decide +kernel
theorem dL_law_1446 : decode mL_law.2.1 1446 = .ok (.iload_n 3, 1) := by decide +kernel
theorem dL_law_1447 : decode mL_law.2.1 1447 = .ok (.iconst 1, 1) := by decide +kernel
theorem dL_law_1448 : decode mL_law.2.1 1448 = .ok (.iadd, 1) := by decide +kernel
theorem dL_law_1449 : decode mL_law.2.1 1449 = .ok (.iaload, 1) := by decide +kernel
theorem dL_law_1450 : decode mL_law.2.1 1450 = .ok (.invokevirtual 167, 3) := by decide +kernel
theorem dL_law_1453 : decode mL_law.2.1 1453 = .ok (.aload_n 2, 1) := by decide +kernel
theorem dL_law_1454 : decode mL_law.2.1 1454 = .ok (.aload_n 0, 1) := by decide +kernel
theorem dL_law_1455 : decode mL_law.2.1 1455 = .ok (.iload_n 3, 1) := by decide +kernel
theorem dL_law_1456 : decode mL_law.2.1 1456 = .ok (.iconst 1, 1) := by decide +kernel
theorem dL_law_1457 : decode mL_law.2.1 1457 = .ok (.iadd, 1) := by decide +kernel
theorem dL_law_1458 : decode mL_law.2.1 1458 = .ok (.iaload, 1) := by decide +kernel
theorem dL_law_1459 : decode mL_law.2.1 1459 = .ok (.invokevirtual 170, 3) := by decide +kernel
theorem dL_law_1462 : decode mL_law.2.1 1462 = .ok (.if_icmp .eq 28, 3) := by decide +kernel
theorem dL_law_1465 : decode mL_law.2.1 1465 = .ok (.iconst 0, 1) := by decide +kernel
theorem dL_law_1466 : decode mL_law.2.1 1466 = .ok (.ireturn, 1) := by decide +kernel
theorem dL_law_1467 : decode mL_law.2.1 1467 = .ok (.aload_n 1, 1) := by decide +kernel
theorem dL_law_1468 : decode mL_law.2.1 1468 = .ok (.aload_n 0, 1) := by decide +kernel
theorem dL_law_1469 : decode mL_law.2.1 1469 = .ok (.iload_n 3, 1) := by decide +kernel
theorem dL_law_1470 : decode mL_law.2.1 1470 = .ok (.iconst 1, 1) := by decide +kernel
theorem dL_law_1471 : decode mL_law.2.1 1471 = .ok (.iadd, 1) := by decide +kernel
theorem dL_law_1472 : decode mL_law.2.1 1472 = .ok (.iaload, 1) := by decide +kernel
theorem dL_law_1473 : decode mL_law.2.1 1473 = .ok (.invokevirtual 171, 3) := by decide +kernel
theorem dL_law_1476 : decode mL_law.2.1 1476 = .ok (.aload_n 2, 1) := by decide +kernel
theorem dL_law_1477 : decode mL_law.2.1 1477 = .ok (.aload_n 0, 1) := by decide +kernel
theorem dL_law_1478 : decode mL_law.2.1 1478 = .ok (.iload_n 3, 1) := by decide +kernel
theorem dL_law_1479 : decode mL_law.2.1 1479 = .ok (.iconst 1, 1) := by decide +kernel
theorem dL_law_1480 : decode mL_law.2.1 1480 = .ok (.iadd, 1) := by decide +kernel
theorem dL_law_1481 : decode mL_law.2.1 1481 = .ok (.iaload, 1) := by decide +kernel
theorem dL_law_1482 : decode mL_law.2.1 1482 = .ok (.invokevirtual 174, 3) := by decide +kernel
theorem dL_law_1485 : decode mL_law.2.1 1485 = .ok (.if_icmp .eq 5, 3) := by decide +kernel
theorem dL_law_1488 : decode mL_law.2.1 1488 = .ok (.iconst 0, 1) := by decide +kernel
theorem dL_law_1489 : decode mL_law.2.1 1489 = .ok (.ireturn, 1) := by decide +kernel
theorem dL_law_1490 : decode mL_law.2.1 1490 = .ok (.iinc 3 6, 3) := by decide +kernel
theorem dL_law_1493 : decode mL_law.2.1 1493 = .ok (.goto (-1475), 3) := by decide +kernel
theorem dL_law_1496 : decode mL_law.2.1 1496 = .ok (.iconst 1, 1) := by decide +kernel
theorem dL_law_1497 : decode mL_law.2.1 1497 = .ok (.ireturn, 1) := by decide +kernel
