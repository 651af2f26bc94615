theorem dL_law_0 : decode code 0 = .ok (.new 8, 3) := by decide +kernel
theorem dL_law_3 : decode code 3 = .ok (.dup, 1) := by decide +kernel
theorem dL_law_4 : decode code 4 = .ok (.invokespecial 15, 3) := by decide +kernel
theorem dL_law_7 : decode code 7 = .ok (.astore_n 1, 1) := by decide +kernel
theorem dL_law_8 : decode code 8 = .ok (.new 16, 3) := by decide +kernel
theorem dL_law_11 : decode code 11 = .ok (.dup, 1) := by decide +kernel
theorem dL_law_12 : decode code 12 = .ok (.invokespecial 18, 3) := by decide +kernel
theorem dL_law_15 : decode code 15 = .ok (.astore_n 2, 1) := by decide +kernel
theorem dL_law_16 : decode code 16 = .ok (.iconst 1, 1) := by decide +kernel
theorem dL_law_17 : decode code 17 = .ok (.newarray .long, 2) := by decide +kernel
theorem dL_law_19 : decode code 19 = .ok (.astore_n 3, 1) := by decide +kernel
theorem dL_law_20 : decode code 20 = .ok (.iconst 0, 1) := by decide +kernel
theorem dL_law_21 : decode code 21 = .ok (.istore 4, 2) := by decide +kernel
theorem dL_law_23 : decode code 23 = .ok (.iload 4, 2) := by decide +kernel
theorem dL_law_25 : decode code 25 = .ok (.aload_n 0, 1) := by decide +kernel
theorem dL_law_26 : decode code 26 = .ok (.arraylength, 1) := by decide +kernel
theorem dL_law_27 : decode code 27 = .ok (.bipush 6, 2) := by decide +kernel
theorem dL_law_29 : decode code 29 = .ok (.isub, 1) := by decide +kernel
theorem dL_law_30 : decode code 30 = .ok (.if_icmp .gt 1968, 3) := by decide +kernel
theorem dL_law_33 : decode code 33 = .ok (.aload_n 0, 1) := by decide +kernel
theorem dL_law_34 : decode code 34 = .ok (.iload 4, 2) := by decide +kernel
theorem dL_law_36 : decode code 36 = .ok (.iaload, 1) := by decide +kernel
theorem dL_law_37 : decode code 37 = .ok (.bipush 63, 2) := by decide +kernel
theorem dL_law_39 : decode code 39 = .ok (.iand, 1) := by decide +kernel
theorem dL_law_40 : decode code 40 = .ok (.tableswitch 1952 0 48 #[212, 285, 310, 323, 336, 361, 398, 435, 472, 521, 558, 583, 608, 657, 706, 755, 792, 817, 854, 879, 904, 941, 966, 991, 1028, 1077, 1114, 1139, 1188, 1225, 1250, 1299, 1336, 1361, 1398, 1423, 1472, 1509, 1558, 1595, 1632, 1669, 1706, 1743, 1792, 1829, 1842, 1926, 1939], 212) := by decide +kernel
theorem dL_law_252 : decode code 252 = .ok (.aload_n 1, 1) := by decide +kernel
theorem dL_law_253 : decode code 253 = .ok (.aload_n 0, 1) := by decide +kernel
theorem dL_law_254 : decode code 254 = .ok (.iload 4, 2) := by decide +kernel
theorem dL_law_256 : decode code 256 = .ok (.iconst 1, 1) := by decide +kernel
theorem dL_law_257 : decode code 257 = .ok (.iadd, 1) := by decide +kernel
theorem dL_law_258 : decode code 258 = .ok (.iaload, 1) := by decide +kernel
theorem dL_law_259 : decode code 259 = .ok (.aload_n 0, 1) := by decide +kernel
theorem dL_law_260 : decode code 260 = .ok (.iload 4, 2) := by decide +kernel
theorem dL_law_262 : decode code 262 = .ok (.iconst 2, 1) := by decide +kernel
theorem dL_law_263 : decode code 263 = .ok (.iadd, 1) := by decide +kernel
theorem dL_law_264 : decode code 264 = .ok (.iaload, 1) := by decide +kernel
theorem dL_law_265 : decode code 265 = .ok (.aload_n 0, 1) := by decide +kernel
theorem dL_law_266 : decode code 266 = .ok (.iload 4, 2) := by decide +kernel
theorem dL_law_268 : decode code 268 = .ok (.iconst 3, 1) := by decide +kernel
theorem dL_law_269 : decode code 269 = .ok (.iadd, 1) := by decide +kernel
theorem dL_law_270 : decode code 270 = .ok (.iaload, 1) := by decide +kernel
theorem dL_law_271 : decode code 271 = .ok (.aload_n 0, 1) := by decide +kernel
theorem dL_law_272 : decode code 272 = .ok (.iload 4, 2) := by decide +kernel
theorem dL_law_274 : decode code 274 = .ok (.iconst 4, 1) := by decide +kernel
theorem dL_law_275 : decode code 275 = .ok (.iadd, 1) := by decide +kernel
theorem dL_law_276 : decode code 276 = .ok (.iaload, 1) := by decide +kernel
theorem dL_law_277 : decode code 277 = .ok (.aload_n 0, 1) := by decide +kernel
theorem dL_law_278 : decode code 278 = .ok (.iload 4, 2) := by decide +kernel
theorem dL_law_280 : decode code 280 = .ok (.iconst 5, 1) := by decide +kernel
theorem dL_law_281 : decode code 281 = .ok (.iadd, 1) := by decide +kernel
theorem dL_law_282 : decode code 282 = .ok (.iaload, 1) := by decide +kernel
theorem dL_law_283 : decode code 283 = .ok (.invokevirtual 19, 3) := by decide +kernel
theorem dL_law_286 : decode code 286 = .ok (.aload_n 2, 1) := by decide +kernel
theorem dL_law_287 : decode code 287 = .ok (.aload_n 0, 1) := by decide +kernel
theorem dL_law_288 : decode code 288 = .ok (.iload 4, 2) := by decide +kernel
theorem dL_law_290 : decode code 290 = .ok (.iconst 1, 1) := by decide +kernel
theorem dL_law_291 : decode code 291 = .ok (.iadd, 1) := by decide +kernel
theorem dL_law_292 : decode code 292 = .ok (.iaload, 1) := by decide +kernel
theorem dL_law_293 : decode code 293 = .ok (.aload_n 0, 1) := by decide +kernel
theorem dL_law_294 : decode code 294 = .ok (.iload 4, 2) := by decide +kernel
theorem dL_law_296 : decode code 296 = .ok (.iconst 2, 1) := by decide +kernel
theorem dL_law_297 : decode code 297 = .ok (.iadd, 1) := by decide +kernel
theorem dL_law_298 : decode code 298 = .ok (.iaload, 1) := by decide +kernel
theorem dL_law_299 : decode code 299 = .ok (.aload_n 0, 1) := by decide +kernel
theorem dL_law_300 : decode code 300 = .ok (.iload 4, 2) := by decide +kernel
theorem dL_law_302 : decode code 302 = .ok (.iconst 3, 1) := by decide +kernel
theorem dL_law_303 : decode code 303 = .ok (.iadd, 1) := by decide +kernel
theorem dL_law_304 : decode code 304 = .ok (.iaload, 1) := by decide +kernel
theorem dL_law_305 : decode code 305 = .ok (.aload_n 0, 1) := by decide +kernel
theorem dL_law_306 : decode code 306 = .ok (.iload 4, 2) := by decide +kernel
theorem dL_law_308 : decode code 308 = .ok (.iconst 4, 1) := by decide +kernel
theorem dL_law_309 : decode code 309 = .ok (.iadd, 1) := by decide +kernel
theorem dL_law_310 : decode code 310 = .ok (.iaload, 1) := by decide +kernel
theorem dL_law_311 : decode code 311 = .ok (.aload_n 0, 1) := by decide +kernel
theorem dL_law_312 : decode code 312 = .ok (.iload 4, 2) := by decide +kernel
theorem dL_law_314 : decode code 314 = .ok (.iconst 5, 1) := by decide +kernel
theorem dL_law_315 : decode code 315 = .ok (.iadd, 1) := by decide +kernel
theorem dL_law_316 : decode code 316 = .ok (.iaload, 1) := by decide +kernel
theorem dL_law_317 : decode code 317 = .ok (.invokevirtual 23, 3) := by decide +kernel
theorem dL_law_320 : decode code 320 = .ok (.if_icmp .eq 1672, 3) := by decide +kernel
theorem dL_law_323 : decode code 323 = .ok (.iconst 0, 1) := by decide +kernel
theorem dL_law_324 : decode code 324 = .ok (.ireturn, 1) := by decide +kernel
theorem dL_law_325 : decode code 325 = .ok (.aload_n 1, 1) := by decide +kernel
theorem dL_law_326 : decode code 326 = .ok (.aload_n 0, 1) := by decide +kernel
theorem dL_law_327 : decode code 327 = .ok (.iload 4, 2) := by decide +kernel
theorem dL_law_329 : decode code 329 = .ok (.iconst 1, 1) := by decide +kernel
theorem dL_law_330 : decode code 330 = .ok (.iadd, 1) := by decide +kernel
theorem dL_law_331 : decode code 331 = .ok (.iaload, 1) := by decide +kernel
theorem dL_law_332 : decode code 332 = .ok (.invokevirtual 24, 3) := by decide +kernel
theorem dL_law_335 : decode code 335 = .ok (.aload_n 2, 1) := by decide +kernel
theorem dL_law_336 : decode code 336 = .ok (.aload_n 0, 1) := by decide +kernel
theorem dL_law_337 : decode code 337 = .ok (.iload 4, 2) := by decide +kernel
theorem dL_law_339 : decode code 339 = .ok (.iconst 1, 1) := by decide +kernel
theorem dL_law_340 : decode code 340 = .ok (.iadd, 1) := by decide +kernel
theorem dL_law_341 : decode code 341 = .ok (.iaload, 1) := by decide +kernel
theorem dL_law_342 : decode code 342 = .ok (.invokevirtual 28, 3) := by decide +kernel
theorem dL_law_345 : decode code 345 = .ok (.if_icmp .eq 1647, 3) := by decide +kernel
theorem dL_law_348 : decode code 348 = .ok (.iconst 0, 1) := by decide +kernel
theorem dL_law_349 : decode code 349 = .ok (.ireturn, 1) := by decide +kernel
theorem dL_law_350 : decode code 350 = .ok (.aload_n 1, 1) := by decide +kernel
theorem dL_law_351 : decode code 351 = .ok (.invokevirtual 29, 3) := by decide +kernel
theorem dL_law_354 : decode code 354 = .ok (.aload_n 2, 1) := by decide +kernel
theorem dL_law_355 : decode code 355 = .ok (.invokevirtual 33, 3) := by decide +kernel
theorem dL_law_358 : decode code 358 = .ok (.if_icmp .eq 1634, 3) := by decide +kernel
theorem dL_law_361 : decode code 361 = .ok (.iconst 0, 1) := by decide +kernel
theorem dL_law_362 : decode code 362 = .ok (.ireturn, 1) := by decide +kernel
theorem dL_law_363 : decode code 363 = .ok (.aload_n 1, 1) := by decide +kernel
theorem dL_law_364 : decode code 364 = .ok (.invokevirtual 34, 3) := by decide +kernel
theorem dL_law_367 : decode code 367 = .ok (.aload_n 2, 1) := by decide +kernel
theorem dL_law_368 : decode code 368 = .ok (.invokevirtual 37, 3) := by decide +kernel
