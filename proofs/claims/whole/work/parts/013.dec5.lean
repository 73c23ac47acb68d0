theorem dX7_findRun_191 : decode cX7_findRun 191 = .ok (.iload_n 2, 1) := by decide +kernel
theorem dX7_findRun_192 : decode cX7_findRun 192 = .ok (.imul, 1) := by decide +kernel
theorem dX7_findRun_193 : decode cX7_findRun 193 = .ok (.iload_n 3, 1) := by decide +kernel
theorem dX7_findRun_194 : decode cX7_findRun 194 = .ok (.iadd, 1) := by decide +kernel
theorem dX7_findRun_195 : decode cX7_findRun 195 = .ok (.iaload, 1) := by decide +kernel
theorem dX7_findRun_196 : decode cX7_findRun 196 = .ok (.iconst (-1), 1) := by decide +kernel
theorem dX7_findRun_197 : decode cX7_findRun 197 = .ok (.if_icmp .eq 39, 3) := by decide +kernel
theorem dX7_findRun_200 : decode cX7_findRun 200 = .ok (.aload_n 0, 1) := by decide +kernel
theorem dX7_findRun_201 : decode cX7_findRun 201 = .ok (.getfield 54, 3) := by decide +kernel
theorem dX7_findRun_204 : decode cX7_findRun 204 = .ok (.aload_n 0, 1) := by decide +kernel
theorem dX7_findRun_205 : decode cX7_findRun 205 = .ok (.getfield 58, 3) := by decide +kernel
theorem dX7_findRun_208 : decode cX7_findRun 208 = .ok (.bipush 9, 2) := by decide +kernel
theorem dX7_findRun_210 : decode cX7_findRun 210 = .ok (.iload_n 2, 1) := by decide +kernel
theorem dX7_findRun_211 : decode cX7_findRun 211 = .ok (.imul, 1) := by decide +kernel
theorem dX7_findRun_212 : decode cX7_findRun 212 = .ok (.iload_n 3, 1) := by decide +kernel
theorem dX7_findRun_213 : decode cX7_findRun 213 = .ok (.iadd, 1) := by decide +kernel
theorem dX7_findRun_214 : decode cX7_findRun 214 = .ok (.iaload, 1) := by decide +kernel
theorem dX7_findRun_215 : decode cX7_findRun 215 = .ok (.iaload, 1) := by decide +kernel
theorem dX7_findRun_216 : decode cX7_findRun 216 = .ok (.iload_n 3, 1) := by decide +kernel
theorem dX7_findRun_217 : decode cX7_findRun 217 = .ok (.iconst 3, 1) := by decide +kernel
theorem dX7_findRun_218 : decode cX7_findRun 218 = .ok (.if_icmp .ge 7, 3) := by decide +kernel
theorem dX7_findRun_221 : decode cX7_findRun 221 = .ok (.iconst 0, 1) := by decide +kernel
theorem dX7_findRun_222 : decode cX7_findRun 222 = .ok (.goto 4, 3) := by decide +kernel
theorem dX7_findRun_225 : decode cX7_findRun 225 = .ok (.iconst 1, 1) := by decide +kernel
theorem dX7_findRun_226 : decode cX7_findRun 226 = .ok (.iadd, 1) := by decide +kernel
theorem dX7_findRun_227 : decode cX7_findRun 227 = .ok (.aload_n 0, 1) := by decide +kernel
theorem dX7_findRun_228 : decode cX7_findRun 228 = .ok (.getfield 54, 3) := by decide +kernel
theorem dX7_findRun_231 : decode cX7_findRun 231 = .ok (.iload_n 2, 1) := by decide +kernel
theorem dX7_findRun_232 : decode cX7_findRun 232 = .ok (.iaload, 1) := by decide +kernel
theorem dX7_findRun_233 : decode cX7_findRun 233 = .ok (.if_icmp .eq 9, 3) := by decide +kernel
theorem dX7_findRun_236 : decode cX7_findRun 236 = .ok (.iinc 3 1, 3) := by decide +kernel
theorem dX7_findRun_239 : decode cX7_findRun 239 = .ok (.goto (-54), 3) := by decide +kernel
theorem dX7_findRun_242 : decode cX7_findRun 242 = .ok (.iload_n 3, 1) := by decide +kernel
theorem dX7_findRun_243 : decode cX7_findRun 243 = .ok (.iconst 3, 1) := by decide +kernel
theorem dX7_findRun_244 : decode cX7_findRun 244 = .ok (.isub, 1) := by decide +kernel
theorem dX7_findRun_245 : decode cX7_findRun 245 = .ok (.iconst 2, 1) := by decide +kernel
theorem dX7_findRun_246 : decode cX7_findRun 246 = .ok (.idiv, 1) := by decide +kernel
theorem dX7_findRun_247 : decode cX7_findRun 247 = .ok (.istore 4, 2) := by decide +kernel
theorem dX7_findRun_249 : decode cX7_findRun 249 = .ok (.iload_n 3, 1) := by decide +kernel
theorem dX7_findRun_250 : decode cX7_findRun 250 = .ok (.iconst 3, 1) := by decide +kernel
theorem dX7_findRun_251 : decode cX7_findRun 251 = .ok (.isub, 1) := by decide +kernel
theorem dX7_findRun_252 : decode cX7_findRun 252 = .ok (.iconst 2, 1) := by decide +kernel
theorem dX7_findRun_253 : decode cX7_findRun 253 = .ok (.irem, 1) := by decide +kernel
theorem dX7_findRun_254 : decode cX7_findRun 254 = .ok (.istore 5, 2) := by decide +kernel
theorem dX7_findRun_256 : decode cX7_findRun 256 = .ok (.iload 5, 2) := by decide +kernel
theorem dX7_findRun_258 : decode cX7_findRun 258 = .ok (.iload 4, 2) := by decide +kernel
theorem dX7_findRun_260 : decode cX7_findRun 260 = .ok (.if_icmp .lt 10, 3) := by decide +kernel
theorem dX7_findRun_263 : decode cX7_findRun 263 = .ok (.iload 5, 2) := by decide +kernel
theorem dX7_findRun_265 : decode cX7_findRun 265 = .ok (.iconst 1, 1) := by decide +kernel
theorem dX7_findRun_266 : decode cX7_findRun 266 = .ok (.iadd, 1) := by decide +kernel
theorem dX7_findRun_267 : decode cX7_findRun 267 = .ok (.goto 5, 3) := by decide +kernel
theorem dX7_findRun_270 : decode cX7_findRun 270 = .ok (.iload 5, 2) := by decide +kernel
theorem dX7_findRun_272 : decode cX7_findRun 272 = .ok (.istore 5, 2) := by decide +kernel
theorem dX7_findRun_274 : decode cX7_findRun 274 = .ok (.aload_n 0, 1) := by decide +kernel
theorem dX7_findRun_275 : decode cX7_findRun 275 = .ok (.aload_n 0, 1) := by decide +kernel
theorem dX7_findRun_276 : decode cX7_findRun 276 = .ok (.getfield 47, 3) := by decide +kernel
theorem dX7_findRun_279 : decode cX7_findRun 279 = .ok (.iload_n 2, 1) := by decide +kernel
theorem dX7_findRun_280 : decode cX7_findRun 280 = .ok (.laload, 1) := by decide +kernel
theorem dX7_findRun_281 : decode cX7_findRun 281 = .ok (.invokevirtual 146, 3) := by decide +kernel
theorem dX7_findRun_284 : decode cX7_findRun 284 = .ok (.aload_n 0, 1) := by decide +kernel
theorem dX7_findRun_285 : decode cX7_findRun 285 = .ok (.getfield 70, 3) := by decide +kernel
theorem dX7_findRun_288 : decode cX7_findRun 288 = .ok (.aload_n 0, 1) := by decide +kernel
theorem dX7_findRun_289 : decode cX7_findRun 289 = .ok (.getfield 154, 3) := by decide +kernel
theorem dX7_findRun_292 : decode cX7_findRun 292 = .ok (.iload_n 3, 1) := by decide +kernel
theorem dX7_findRun_293 : decode cX7_findRun 293 = .ok (.iconst 3, 1) := by decide +kernel
theorem dX7_findRun_294 : decode cX7_findRun 294 = .ok (.if_icmp .ge 7, 3) := by decide +kernel
theorem dX7_findRun_297 : decode cX7_findRun 297 = .ok (.iload_n 3, 1) := by decide +kernel
theorem dX7_findRun_298 : decode cX7_findRun 298 = .ok (.goto 13, 3) := by decide +kernel
theorem dX7_findRun_301 : decode cX7_findRun 301 = .ok (.bipush 10, 2) := by decide +kernel
theorem dX7_findRun_303 : decode cX7_findRun 303 = .ok (.iconst 3, 1) := by decide +kernel
theorem dX7_findRun_304 : decode cX7_findRun 304 = .ok (.iload 4, 2) := by decide +kernel
theorem dX7_findRun_306 : decode cX7_findRun 306 = .ok (.imul, 1) := by decide +kernel
theorem dX7_findRun_307 : decode cX7_findRun 307 = .ok (.iadd, 1) := by decide +kernel
theorem dX7_findRun_308 : decode cX7_findRun 308 = .ok (.iload 5, 2) := by decide +kernel
theorem dX7_findRun_310 : decode cX7_findRun 310 = .ok (.iadd, 1) := by decide +kernel
theorem dX7_findRun_311 : decode cX7_findRun 311 = .ok (.iastore, 1) := by decide +kernel
theorem dX7_findRun_312 : decode cX7_findRun 312 = .ok (.aload_n 0, 1) := by decide +kernel
theorem dX7_findRun_313 : decode cX7_findRun 313 = .ok (.getfield 73, 3) := by decide +kernel
theorem dX7_findRun_316 : decode cX7_findRun 316 = .ok (.aload_n 0, 1) := by decide +kernel
theorem dX7_findRun_317 : decode cX7_findRun 317 = .ok (.getfield 154, 3) := by decide +kernel
theorem dX7_findRun_320 : decode cX7_findRun 320 = .ok (.iload_n 3, 1) := by decide +kernel
theorem dX7_findRun_321 : decode cX7_findRun 321 = .ok (.iconst 3, 1) := by decide +kernel
theorem dX7_findRun_322 : decode cX7_findRun 322 = .ok (.if_icmp .ge 23, 3) := by decide +kernel
theorem dX7_findRun_325 : decode cX7_findRun 325 = .ok (.aload_n 0, 1) := by decide +kernel
theorem dX7_findRun_326 : decode cX7_findRun 326 = .ok (.getfield 64, 3) := by decide +kernel
theorem dX7_findRun_329 : decode cX7_findRun 329 = .ok (.iconst 5, 1) := by decide +kernel
theorem dX7_findRun_330 : decode cX7_findRun 330 = .ok (.iload_n 3, 1) := by decide +kernel
theorem dX7_findRun_331 : decode cX7_findRun 331 = .ok (.imul, 1) := by decide +kernel
theorem dX7_findRun_332 : decode cX7_findRun 332 = .ok (.aload_n 0, 1) := by decide +kernel
theorem dX7_findRun_333 : decode cX7_findRun 333 = .ok (.getfield 67, 3) := by decide +kernel
theorem dX7_findRun_336 : decode cX7_findRun 336 = .ok (.iload_n 3, 1) := by decide +kernel
theorem dX7_findRun_337 : decode cX7_findRun 337 = .ok (.iaload, 1) := by decide +kernel
theorem dX7_findRun_338 : decode cX7_findRun 338 = .ok (.iadd, 1) := by decide +kernel
theorem dX7_findRun_339 : decode cX7_findRun 339 = .ok (.iconst 1, 1) := by decide +kernel
theorem dX7_findRun_340 : decode cX7_findRun 340 = .ok (.isub, 1) := by decide +kernel
theorem dX7_findRun_341 : decode cX7_findRun 341 = .ok (.iaload, 1) := by decide +kernel
theorem dX7_findRun_342 : decode cX7_findRun 342 = .ok (.goto 4, 3) := by decide +kernel
theorem dX7_findRun_345 : decode cX7_findRun 345 = .ok (.iconst (-1), 1) := by decide +kernel
theorem dX7_findRun_346 : decode cX7_findRun 346 = .ok (.iastore, 1) := by decide +kernel
theorem dX7_findRun_347 : decode cX7_findRun 347 = .ok (.aload_n 0, 1) := by decide +kernel
theorem dX7_findRun_348 : decode cX7_findRun 348 = .ok (.dup, 1) := by decide +kernel
theorem dX7_findRun_349 : decode cX7_findRun 349 = .ok (.getfield 154, 3) := by decide +kernel
theorem dX7_findRun_352 : decode cX7_findRun 352 = .ok (.iconst 1, 1) := by decide +kernel
theorem dX7_findRun_353 : decode cX7_findRun 353 = .ok (.iadd, 1) := by decide +kernel
theorem dX7_findRun_354 : decode cX7_findRun 354 = .ok (.putfield 154, 3) := by decide +kernel
theorem dX7_findRun_357 : decode cX7_findRun 357 = .ok (.aload_n 0, 1) := by decide +kernel
theorem dX7_findRun_358 : decode cX7_findRun 358 = .ok (.getfield 58, 3) := by decide +kernel
theorem dX7_findRun_361 : decode cX7_findRun 361 = .ok (.bipush 9, 2) := by decide +kernel
theorem dX7_findRun_363 : decode cX7_findRun 363 = .ok (.iload_n 2, 1) := by decide +kernel
theorem dX7_findRun_364 : decode cX7_findRun 364 = .ok (.imul, 1) := by decide +kernel
theorem dX7_findRun_365 : decode cX7_findRun 365 = .ok (.iload_n 3, 1) := by decide +kernel
theorem dX7_findRun_366 : decode cX7_findRun 366 = .ok (.iadd, 1) := by decide +kernel
theorem dX7_findRun_367 : decode cX7_findRun 367 = .ok (.iaload, 1) := by decide +kernel
theorem dX7_findRun_368 : decode cX7_findRun 368 = .ok (.istore_n 2, 1) := by decide +kernel
theorem dX7_findRun_369 : decode cX7_findRun 369 = .ok (.goto (-210), 3) := by decide +kernel
theorem dX7_findRun_372 : decode cX7_findRun 372 = .ok (.aload_n 0, 1) := by decide +kernel
theorem dX7_findRun_373 : decode cX7_findRun 373 = .ok (.getfield 54, 3) := by decide +kernel
theorem dX7_findRun_376 : decode cX7_findRun 376 = .ok (.iconst 0, 1) := by decide +kernel
theorem dX7_findRun_377 : decode cX7_findRun 377 = .ok (.iaload, 1) := by decide +kernel
theorem dX7_findRun_378 : decode cX7_findRun 378 = .ok (.ireturn, 1) := by decide +kernel
set_option maxRecDepth 20000 in
theorem ggX7_shunts_X7_findRun : GoodIn wsX7_shunts wsX7_findRun := goodIn_r _ [6, 7, 8, 9, 10, 1, 11, 12, 13, 14, 15, 16, 17, 18, 19, 20, 5, 21, 22, 23, 24, 25, 26, 27, 28, 29, 30, 31, 32, 33, 34, 35, 36, 37, 38, 39, 40, 41, 42, 43, 44, 45, 46, 47, 48, 49, 50, 51, 52, 53, 54, 55, 56, 57, 58, 59, 60, 61, 62, 63, 64, 65, 66, 67, 68, 69, 70, 71, 72, 73, 74, 75, 76] (by decide +kernel) (by decide +kernel)
set_option maxRecDepth 20000 in
theorem gX7_shunts_X7_findRun : GoodIn wsX7_shunts (wsV RX7 157 RX7 yX7_findRun wsX7_findRun) := goodIn_app (goodIn_of _ (by decide +kernel)) ggX7_shunts_X7_findRun
theorem dX7_shunts_0 : decode cX7_shunts 0 = .ok (.aload_n 0, 1) := by decide +kernel
theorem dX7_shunts_1 : decode cX7_shunts 1 = .ok (.invokevirtual 157, 3) := by decide +kernel
theorem dX7_shunts_4 : decode cX7_shunts 4 = .ok (.istore_n 1, 1) := by decide +kernel
theorem dX7_shunts_5 : decode cX7_shunts 5 = .ok (.iload_n 1, 1) := by decide +kernel
theorem dX7_shunts_6 : decode cX7_shunts 6 = .ok (.ldc 153, 2) := by decide +kernel
theorem dX7_shunts_8 : decode cX7_shunts 8 = .ok (.if_icmp .ne 7, 3) := by decide +kernel
theorem dX7_shunts_11 : decode cX7_shunts 11 = .ok (.iconst (-1), 1) := by decide +kernel
theorem dX7_shunts_12 : decode cX7_shunts 12 = .ok (.goto 4, 3) := by decide +kernel
theorem dX7_shunts_15 : decode cX7_shunts 15 = .ok (.iload_n 1, 1) := by decide +kernel
theorem dX7_shunts_16 : decode cX7_shunts 16 = .ok (.ireturn, 1) := by decide +kernel
set_option maxRecDepth 20000 in
theorem ggX7_step_X7_findRun : GoodIn wsX7_step wsX7_findRun := goodIn_r _ [7, 8, 9, 10, 11, 12, 13, 1, 14, 2, 15, 16, 17, 18, 19, 20, 6, 21, 22, 23, 24, 25, 26, 27, 28, 29, 30, 31, 32, 33, 34, 35, 36, 37, 38, 39, 40, 41, 42, 43, 44, 45, 46, 47, 48, 49, 50, 51, 52, 53, 54, 55, 56, 57, 58, 59, 60, 61, 62, 63, 64, 65, 66, 67, 68, 69, 70, 71, 72, 73, 74, 75, 76] (by decide +kernel) (by decide +kernel)
set_option maxRecDepth 20000 in
theorem gX7_step_X7_findRun : GoodIn wsX7_step (wsV RX7 157 RX7 yX7_findRun wsX7_findRun) := goodIn_app (goodIn_of _ (by decide +kernel)) ggX7_step_X7_findRun
theorem dX7_step_0 : decode cX7_step 0 = .ok (.iload_n 1, 1) := by decide +kernel
theorem dX7_step_1 : decode cX7_step 1 = .ok (.ifCond .ge 6, 3) := by decide +kernel
theorem dX7_step_4 : decode cX7_step 4 = .ok (.bipush (-3), 2) := by decide +kernel
theorem dX7_step_6 : decode cX7_step 6 = .ok (.ireturn, 1) := by decide +kernel
theorem dX7_step_7 : decode cX7_step 7 = .ok (.aload_n 0, 1) := by decide +kernel
theorem dX7_step_8 : decode cX7_step 8 = .ok (.invokevirtual 157, 3) := by decide +kernel
theorem dX7_step_11 : decode cX7_step 11 = .ok (.pop, 1) := by decide +kernel
theorem dX7_step_12 : decode cX7_step 12 = .ok (.iload_n 1, 1) := by decide +kernel
theorem dX7_step_13 : decode cX7_step 13 = .ok (.aload_n 0, 1) := by decide +kernel
theorem dX7_step_14 : decode cX7_step 14 = .ok (.getfield 154, 3) := by decide +kernel
theorem dX7_step_17 : decode cX7_step 17 = .ok (.if_icmp .ge 12, 3) := by decide +kernel
theorem dX7_step_20 : decode cX7_step 20 = .ok (.aload_n 0, 1) := by decide +kernel
theorem dX7_step_21 : decode cX7_step 21 = .ok (.getfield 70, 3) := by decide +kernel
theorem dX7_step_24 : decode cX7_step 24 = .ok (.iload_n 1, 1) := by decide +kernel
theorem dX7_step_25 : decode cX7_step 25 = .ok (.iaload, 1) := by decide +kernel
theorem dX7_step_26 : decode cX7_step 26 = .ok (.goto 4, 3) := by decide +kernel
theorem dX7_step_29 : decode cX7_step 29 = .ok (.iconst (-1), 1) := by decide +kernel
theorem dX7_step_30 : decode cX7_step 30 = .ok (.ireturn, 1) := by decide +kernel
set_option maxRecDepth 20000 in
theorem ggX7_leaves_X7_findRun : GoodIn wsX7_leaves wsX7_findRun := goodIn_r _ [7, 8, 9, 10, 11, 12, 13, 1, 14, 15, 2, 16, 17, 18, 19, 20, 6, 21, 22, 23, 24, 25, 26, 27, 28, 29, 30, 31, 32, 33, 34, 35, 36, 37, 38, 39, 40, 41, 42, 43, 44, 45, 46, 47, 48, 49, 50, 51, 52, 53, 54, 55, 56, 57, 58, 59, 60, 61, 62, 63, 64, 65, 66, 67, 68, 69, 70, 71, 72, 73, 74, 75, 76] (by decide +kernel) (by decide +kernel)
set_option maxRecDepth 20000 in
theorem gX7_leaves_X7_findRun : GoodIn wsX7_leaves (wsV RX7 157 RX7 yX7_findRun wsX7_findRun) := goodIn_app (goodIn_of _ (by decide +kernel)) ggX7_leaves_X7_findRun
theorem dX7_leaves_0 : decode cX7_leaves 0 = .ok (.iload_n 1, 1) := by decide +kernel
theorem dX7_leaves_1 : decode cX7_leaves 1 = .ok (.ifCond .ge 6, 3) := by decide +kernel
theorem dX7_leaves_4 : decode cX7_leaves 4 = .ok (.bipush (-3), 2) := by decide +kernel
theorem dX7_leaves_6 : decode cX7_leaves 6 = .ok (.ireturn, 1) := by decide +kernel
theorem dX7_leaves_7 : decode cX7_leaves 7 = .ok (.aload_n 0, 1) := by decide +kernel
theorem dX7_leaves_8 : decode cX7_leaves 8 = .ok (.invokevirtual 157, 3) := by decide +kernel
theorem dX7_leaves_11 : decode cX7_leaves 11 = .ok (.pop, 1) := by decide +kernel
theorem dX7_leaves_12 : decode cX7_leaves 12 = .ok (.iload_n 1, 1) := by decide +kernel
theorem dX7_leaves_13 : decode cX7_leaves 13 = .ok (.istore_n 2, 1) := by decide +kernel
theorem dX7_leaves_14 : decode cX7_leaves 14 = .ok (.iconst 0, 1) := by decide +kernel
theorem dX7_leaves_15 : decode cX7_leaves 15 = .ok (.istore_n 3, 1) := by decide +kernel
theorem dX7_leaves_16 : decode cX7_leaves 16 = .ok (.iload_n 3, 1) := by decide +kernel
theorem dX7_leaves_17 : decode cX7_leaves 17 = .ok (.aload_n 0, 1) := by decide +kernel
theorem dX7_leaves_18 : decode cX7_leaves 18 = .ok (.getfield 154, 3) := by decide +kernel
theorem dX7_leaves_21 : decode cX7_leaves 21 = .ok (.if_icmp .ge 33, 3) := by decide +kernel
theorem dX7_leaves_24 : decode cX7_leaves 24 = .ok (.aload_n 0, 1) := by decide +kernel
theorem dX7_leaves_25 : decode cX7_leaves 25 = .ok (.getfield 73, 3) := by decide +kernel
theorem dX7_leaves_28 : decode cX7_leaves 28 = .ok (.iload_n 3, 1) := by decide +kernel
theorem dX7_leaves_29 : decode cX7_leaves 29 = .ok (.iaload, 1) := by decide +kernel
theorem dX7_leaves_30 : decode cX7_leaves 30 = .ok (.iconst (-1), 1) := by decide +kernel
theorem dX7_leaves_31 : decode cX7_leaves 31 = .ok (.if_icmp .eq 17, 3) := by decide +kernel
theorem dX7_leaves_34 : decode cX7_leaves 34 = .ok (.iload_n 2, 1) := by decide +kernel
theorem dX7_leaves_35 : decode cX7_leaves 35 = .ok (.ifCond .ne 10, 3) := by decide +kernel
theorem dX7_leaves_38 : decode cX7_leaves 38 = .ok (.aload_n 0, 1) := by decide +kernel
theorem dX7_leaves_39 : decode cX7_leaves 39 = .ok (.getfield 73, 3) := by decide +kernel
theorem dX7_leaves_42 : decode cX7_leaves 42 = .ok (.iload_n 3, 1) := by decide +kernel
theorem dX7_leaves_43 : decode cX7_leaves 43 = .ok (.iaload, 1) := by decide +kernel
theorem dX7_leaves_44 : decode cX7_leaves 44 = .ok (.ireturn, 1) := by decide +kernel
theorem dX7_leaves_45 : decode cX7_leaves 45 = .ok (.iinc 2 (-1), 3) := by decide +kernel
theorem dX7_leaves_48 : decode cX7_leaves 48 = .ok (.iinc 3 1, 3) := by decide +kernel
theorem dX7_leaves_51 : decode cX7_leaves 51 = .ok (.goto (-35), 3) := by decide +kernel
theorem dX7_leaves_54 : decode cX7_leaves 54 = .ok (.iconst (-1), 1) := by decide +kernel
theorem dX7_leaves_55 : decode cX7_leaves 55 = .ok (.ireturn, 1) := by decide +kernel
theorem dX7_findEnds_0 : decode cX7_findEnds 0 = .ok (.iconst 0, 1) := by decide +kernel
theorem dX7_findEnds_1 : decode cX7_findEnds 1 = .ok (.istore_n 1, 1) := by decide +kernel
theorem dX7_findEnds_2 : decode cX7_findEnds 2 = .ok (.iconst 0, 1) := by decide +kernel
theorem dX7_findEnds_3 : decode cX7_findEnds 3 = .ok (.istore_n 2, 1) := by decide +kernel
theorem dX7_findEnds_4 : decode cX7_findEnds 4 = .ok (.iconst 0, 1) := by decide +kernel
theorem dX7_findEnds_5 : decode cX7_findEnds 5 = .ok (.istore_n 3, 1) := by decide +kernel
theorem dX7_findEnds_6 : decode cX7_findEnds 6 = .ok (.iload_n 3, 1) := by decide +kernel
theorem dX7_findEnds_7 : decode cX7_findEnds 7 = .ok (.aload_n 0, 1) := by decide +kernel
theorem dX7_findEnds_8 : decode cX7_findEnds 8 = .ok (.getfield 88, 3) := by decide +kernel
theorem dX7_findEnds_11 : decode cX7_findEnds 11 = .ok (.if_icmp .ge 53, 3) := by decide +kernel
theorem dX7_findEnds_14 : decode cX7_findEnds 14 = .ok (.iload_n 1, 1) := by decide +kernel
theorem dX7_findEnds_15 : decode cX7_findEnds 15 = .ok (.aload_n 0, 1) := by decide +kernel
theorem dX7_findEnds_16 : decode cX7_findEnds 16 = .ok (.getfield 13, 3) := by decide +kernel
theorem dX7_findEnds_19 : decode cX7_findEnds 19 = .ok (.aload_n 0, 1) := by decide +kernel
theorem dX7_findEnds_20 : decode cX7_findEnds 20 = .ok (.getfield 76, 3) := by decide +kernel
theorem dX7_findEnds_23 : decode cX7_findEnds 23 = .ok (.iload_n 3, 1) := by decide +kernel
theorem dX7_findEnds_24 : decode cX7_findEnds 24 = .ok (.iaload, 1) := by decide +kernel
theorem dX7_findEnds_25 : decode cX7_findEnds 25 = .ok (.iaload, 1) := by decide +kernel
theorem dX7_findEnds_26 : decode cX7_findEnds 26 = .ok (.iadd, 1) := by decide +kernel
theorem dX7_findEnds_27 : decode cX7_findEnds 27 = .ok (.istore_n 1, 1) := by decide +kernel
theorem dX7_findEnds_28 : decode cX7_findEnds 28 = .ok (.iload_n 1, 1) := by decide +kernel
theorem dX7_findEnds_29 : decode cX7_findEnds 29 = .ok (.iload_n 2, 1) := by decide +kernel
theorem dX7_findEnds_30 : decode cX7_findEnds 30 = .ok (.if_icmp .le 7, 3) := by decide +kernel
theorem dX7_findEnds_33 : decode cX7_findEnds 33 = .ok (.iload_n 1, 1) := by decide +kernel
theorem dX7_findEnds_34 : decode cX7_findEnds 34 = .ok (.goto 4, 3) := by decide +kernel
theorem dX7_findEnds_37 : decode cX7_findEnds 37 = .ok (.iload_n 2, 1) := by decide +kernel
theorem dX7_findEnds_38 : decode cX7_findEnds 38 = .ok (.aload_n 0, 1) := by decide +kernel
theorem dX7_findEnds_39 : decode cX7_findEnds 39 = .ok (.getfield 16, 3) := by decide +kernel
theorem dX7_findEnds_42 : decode cX7_findEnds 42 = .ok (.aload_n 0, 1) := by decide +kernel
theorem dX7_findEnds_43 : decode cX7_findEnds 43 = .ok (.getfield 76, 3) := by decide +kernel
theorem dX7_findEnds_46 : decode cX7_findEnds 46 = .ok (.iload_n 3, 1) := by decide +kernel
theorem dX7_findEnds_47 : decode cX7_findEnds 47 = .ok (.iaload, 1) := by decide +kernel
theorem dX7_findEnds_48 : decode cX7_findEnds 48 = .ok (.iaload, 1) := by decide +kernel
theorem dX7_findEnds_49 : decode cX7_findEnds 49 = .ok (.iadd, 1) := by decide +kernel
theorem dX7_findEnds_50 : decode cX7_findEnds 50 = .ok (.istore_n 2, 1) := by decide +kernel
theorem dX7_findEnds_51 : decode cX7_findEnds 51 = .ok (.aload_n 0, 1) := by decide +kernel
theorem dX7_findEnds_52 : decode cX7_findEnds 52 = .ok (.getfield 79, 3) := by decide +kernel
theorem dX7_findEnds_55 : decode cX7_findEnds 55 = .ok (.iload_n 3, 1) := by decide +kernel
theorem dX7_findEnds_56 : decode cX7_findEnds 56 = .ok (.iload_n 2, 1) := by decide +kernel
theorem dX7_findEnds_57 : decode cX7_findEnds 57 = .ok (.iastore, 1) := by decide +kernel
theorem dX7_findEnds_58 : decode cX7_findEnds 58 = .ok (.iinc 3 1, 3) := by decide +kernel
theorem dX7_findEnds_61 : decode cX7_findEnds 61 = .ok (.goto (-55), 3) := by decide +kernel
theorem dX7_findEnds_64 : decode cX7_findEnds 64 = .ok (.iload_n 2, 1) := by decide +kernel
theorem dX7_findEnds_65 : decode cX7_findEnds 65 = .ok (.ireturn, 1) := by decide +kernel
theorem dX7_tell_0 : decode cX7_tell 0 = .ok (.iload_n 1, 1) := by decide +kernel
theorem dX7_tell_1 : decode cX7_tell 1 = .ok (.istore_n 3, 1) := by decide +kernel
theorem dX7_tell_2 : decode cX7_tell 2 = .ok (.iload_n 2, 1) := by decide +kernel
theorem dX7_tell_3 : decode cX7_tell 3 = .ok (.istore 4, 2) := by decide +kernel
theorem dX7_tell_5 : decode cX7_tell 5 = .ok (.iconst 0, 1) := by decide +kernel
theorem dX7_tell_6 : decode cX7_tell 6 = .ok (.istore 5, 2) := by decide +kernel
theorem dX7_tell_8 : decode cX7_tell 8 = .ok (.iconst 0, 1) := by decide +kernel
theorem dX7_tell_9 : decode cX7_tell 9 = .ok (.istore 6, 2) := by decide +kernel
theorem dX7_tell_11 : decode cX7_tell 11 = .ok (.iload 6, 2) := by decide +kernel
theorem dX7_tell_13 : decode cX7_tell 13 = .ok (.aload_n 0, 1) := by decide +kernel
theorem dX7_tell_14 : decode cX7_tell 14 = .ok (.getfield 88, 3) := by decide +kernel
theorem dX7_tell_17 : decode cX7_tell 17 = .ok (.if_icmp .ge 95, 3) := by decide +kernel
theorem dX7_tell_20 : decode cX7_tell 20 = .ok (.iload 4, 2) := by decide +kernel
theorem dX7_tell_22 : decode cX7_tell 22 = .ok (.aload_n 0, 1) := by decide +kernel
theorem dX7_tell_23 : decode cX7_tell 23 = .ok (.getfield 88, 3) := by decide +kernel
theorem dX7_tell_26 : decode cX7_tell 26 = .ok (.iload 6, 2) := by decide +kernel
theorem dX7_tell_28 : decode cX7_tell 28 = .ok (.isub, 1) := by decide +kernel
theorem dX7_tell_29 : decode cX7_tell 29 = .ok (.idiv, 1) := by decide +kernel
theorem dX7_tell_30 : decode cX7_tell 30 = .ok (.istore 4, 2) := by decide +kernel
theorem dX7_tell_32 : decode cX7_tell 32 = .ok (.iload_n 3, 1) := by decide +kernel
theorem dX7_tell_33 : decode cX7_tell 33 = .ok (.iload 4, 2) := by decide +kernel
theorem dX7_tell_35 : decode cX7_tell 35 = .ok (.idiv, 1) := by decide +kernel
theorem dX7_tell_36 : decode cX7_tell 36 = .ok (.istore 7, 2) := by decide +kernel
theorem dX7_tell_38 : decode cX7_tell 38 = .ok (.iload_n 3, 1) := by decide +kernel
theorem dX7_tell_39 : decode cX7_tell 39 = .ok (.iload 4, 2) := by decide +kernel
theorem dX7_tell_41 : decode cX7_tell 41 = .ok (.irem, 1) := by decide +kernel
theorem dX7_tell_42 : decode cX7_tell 42 = .ok (.istore_n 3, 1) := by decide +kernel
theorem dX7_tell_43 : decode cX7_tell 43 = .ok (.iconst 0, 1) := by decide +kernel
theorem dX7_tell_44 : decode cX7_tell 44 = .ok (.istore 8, 2) := by decide +kernel
theorem dX7_tell_46 : decode cX7_tell 46 = .ok (.iload 5, 2) := by decide +kernel
theorem dX7_tell_48 : decode cX7_tell 48 = .ok (.iload 8, 2) := by decide +kernel
theorem dX7_tell_50 : decode cX7_tell 50 = .ok (.ishr, 1) := by decide +kernel
theorem dX7_tell_51 : decode cX7_tell 51 = .ok (.iconst 1, 1) := by decide +kernel
theorem dX7_tell_52 : decode cX7_tell 52 = .ok (.iand, 1) := by decide +kernel
theorem dX7_tell_53 : decode cX7_tell 53 = .ok (.iconst 1, 1) := by decide +kernel
theorem dX7_tell_54 : decode cX7_tell 54 = .ok (.if_icmp .eq 8, 3) := by decide +kernel
theorem dX7_tell_57 : decode cX7_tell 57 = .ok (.iload 7, 2) := by decide +kernel
theorem dX7_tell_59 : decode cX7_tell 59 = .ok (.ifCond .le 29, 3) := by decide +kernel
theorem dX7_tell_62 : decode cX7_tell 62 = .ok (.iload 7, 2) := by decide +kernel
theorem dX7_tell_64 : decode cX7_tell 64 = .ok (.iload 5, 2) := by decide +kernel
theorem dX7_tell_66 : decode cX7_tell 66 = .ok (.iload 8, 2) := by decide +kernel
theorem dX7_tell_68 : decode cX7_tell 68 = .ok (.ishr, 1) := by decide +kernel
theorem dX7_tell_69 : decode cX7_tell 69 = .ok (.iconst 1, 1) := by decide +kernel
theorem dX7_tell_70 : decode cX7_tell 70 = .ok (.iand, 1) := by decide +kernel
theorem dX7_tell_71 : decode cX7_tell 71 = .ok (.ifCond .ne 7, 3) := by decide +kernel
theorem dX7_tell_74 : decode cX7_tell 74 = .ok (.iconst 1, 1) := by decide +kernel
theorem dX7_tell_75 : decode cX7_tell 75 = .ok (.goto 4, 3) := by decide +kernel
theorem dX7_tell_78 : decode cX7_tell 78 = .ok (.iconst 0, 1) := by decide +kernel
theorem dX7_tell_79 : decode cX7_tell 79 = .ok (.isub, 1) := by decide +kernel
theorem dX7_tell_80 : decode cX7_tell 80 = .ok (.istore 7, 2) := by decide +kernel
theorem dX7_tell_82 : decode cX7_tell 82 = .ok (.iinc 8 1, 3) := by decide +kernel
theorem dX7_tell_85 : decode cX7_tell 85 = .ok (.goto (-39), 3) := by decide +kernel
theorem dX7_tell_88 : decode cX7_tell 88 = .ok (.aload_n 0, 1) := by decide +kernel
theorem dX7_tell_89 : decode cX7_tell 89 = .ok (.getfield 76, 3) := by decide +kernel
theorem dX7_tell_92 : decode cX7_tell 92 = .ok (.iload 6, 2) := by decide +kernel
theorem dX7_tell_94 : decode cX7_tell 94 = .ok (.iload 8, 2) := by decide +kernel
theorem dX7_tell_96 : decode cX7_tell 96 = .ok (.iastore, 1) := by decide +kernel
theorem dX7_tell_97 : decode cX7_tell 97 = .ok (.iload 5, 2) := by decide +kernel
theorem dX7_tell_99 : decode cX7_tell 99 = .ok (.iconst 1, 1) := by decide +kernel
theorem dX7_tell_100 : decode cX7_tell 100 = .ok (.iload 8, 2) := by decide +kernel
theorem dX7_tell_102 : decode cX7_tell 102 = .ok (.ishl, 1) := by decide +kernel
theorem dX7_tell_103 : decode cX7_tell 103 = .ok (.ior, 1) := by decide +kernel
theorem dX7_tell_104 : decode cX7_tell 104 = .ok (.istore 5, 2) := by decide +kernel
theorem dX7_tell_106 : decode cX7_tell 106 = .ok (.iinc 6 1, 3) := by decide +kernel
theorem dX7_tell_109 : decode cX7_tell 109 = .ok (.goto (-98), 3) := by decide +kernel
theorem dX7_tell_112 : decode cX7_tell 112 = .ok (.return_, 1) := by decide +kernel
set_option maxRecDepth 20000 in
theorem ggX7_findBest_X7_tell : GoodIn wsX7_findBest wsX7_tell := goodIn_r _ [11, 1, 4, 18, 19, 20, 21, 22, 23, 24, 25, 26, 27, 28, 29, 30, 31, 32, 33, 34, 35, 36, 37, 38, 39, 40, 41, 42, 43, 44, 45, 46, 47] (by decide +kernel) (by decide +kernel)
set_option maxRecDepth 20000 in
theorem gX7_findBest_X7_tell : GoodIn wsX7_findBest (wsV RX7 160 RX7 yX7_tell wsX7_tell) := goodIn_app (goodIn_of _ (by decide +kernel)) ggX7_findBest_X7_tell
set_option maxRecDepth 20000 in
theorem ggX7_findBest_X7_findEnds : GoodIn wsX7_findBest wsX7_findEnds := goodIn_r _ [15, 1, 16, 4, 17, 6, 18, 19, 20, 21, 22, 23, 24, 25, 26, 27, 28, 29, 30, 31, 32, 33, 34, 35, 36, 37, 38, 39, 40, 41, 42, 43, 44, 45, 46, 47] (by decide +kernel) (by decide +kernel)
set_option maxRecDepth 20000 in
theorem gX7_findBest_X7_findEnds : GoodIn wsX7_findBest (wsV RX7 164 RX7 yX7_findEnds wsX7_findEnds) := goodIn_app (goodIn_of _ (by decide +kernel)) ggX7_findBest_X7_findEnds
theorem dX7_findBest_0 : decode cX7_findBest 0 = .ok (.iconst 1, 1) := by decide +kernel
theorem dX7_findBest_1 : decode cX7_findBest 1 = .ok (.istore_n 1, 1) := by decide +kernel
theorem dX7_findBest_2 : decode cX7_findBest 2 = .ok (.iconst 2, 1) := by decide +kernel
theorem dX7_findBest_3 : decode cX7_findBest 3 = .ok (.istore_n 2, 1) := by decide +kernel
theorem dX7_findBest_4 : decode cX7_findBest 4 = .ok (.iload_n 2, 1) := by decide +kernel
theorem dX7_findBest_5 : decode cX7_findBest 5 = .ok (.aload_n 0, 1) := by decide +kernel
theorem dX7_findBest_6 : decode cX7_findBest 6 = .ok (.getfield 88, 3) := by decide +kernel
theorem dX7_findBest_9 : decode cX7_findBest 9 = .ok (.if_icmp .gt 13, 3) := by decide +kernel
theorem dX7_findBest_12 : decode cX7_findBest 12 = .ok (.iload_n 1, 1) := by decide +kernel
theorem dX7_findBest_13 : decode cX7_findBest 13 = .ok (.iload_n 2, 1) := by decide +kernel
theorem dX7_findBest_14 : decode cX7_findBest 14 = .ok (.imul, 1) := by decide +kernel
theorem dX7_findBest_15 : decode cX7_findBest 15 = .ok (.istore_n 1, 1) := by decide +kernel
theorem dX7_findBest_16 : decode cX7_findBest 16 = .ok (.iinc 2 1, 3) := by decide +kernel
theorem dX7_findBest_19 : decode cX7_findBest 19 = .ok (.goto (-15), 3) := by decide +kernel
theorem dX7_findBest_22 : decode cX7_findBest 22 = .ok (.ldc 153, 2) := by decide +kernel
theorem dX7_findBest_24 : decode cX7_findBest 24 = .ok (.istore_n 2, 1) := by decide +kernel
theorem dX7_findBest_25 : decode cX7_findBest 25 = .ok (.iconst 0, 1) := by decide +kernel
theorem dX7_findBest_26 : decode cX7_findBest 26 = .ok (.istore_n 3, 1) := by decide +kernel
theorem dX7_findBest_27 : decode cX7_findBest 27 = .ok (.iload_n 3, 1) := by decide +kernel
theorem dX7_findBest_28 : decode cX7_findBest 28 = .ok (.iload_n 1, 1) := by decide +kernel
theorem dX7_findBest_29 : decode cX7_findBest 29 = .ok (.if_icmp .ge 76, 3) := by decide +kernel
theorem dX7_findBest_32 : decode cX7_findBest 32 = .ok (.aload_n 0, 1) := by decide +kernel
theorem dX7_findBest_33 : decode cX7_findBest 33 = .ok (.iload_n 3, 1) := by decide +kernel
theorem dX7_findBest_34 : decode cX7_findBest 34 = .ok (.iload_n 1, 1) := by decide +kernel
theorem dX7_findBest_35 : decode cX7_findBest 35 = .ok (.invokevirtual 160, 3) := by decide +kernel
theorem dX7_findBest_38 : decode cX7_findBest 38 = .ok (.aload_n 0, 1) := by decide +kernel
theorem dX7_findBest_39 : decode cX7_findBest 39 = .ok (.invokevirtual 164, 3) := by decide +kernel
theorem dX7_findBest_42 : decode cX7_findBest 42 = .ok (.istore 4, 2) := by decide +kernel
theorem dX7_findBest_44 : decode cX7_findBest 44 = .ok (.iload 4, 2) := by decide +kernel
theorem dX7_findBest_46 : decode cX7_findBest 46 = .ok (.iload_n 2, 1) := by decide +kernel
theorem dX7_findBest_47 : decode cX7_findBest 47 = .ok (.if_icmp .ge 52, 3) := by decide +kernel
theorem dX7_findBest_50 : decode cX7_findBest 50 = .ok (.iload 4, 2) := by decide +kernel
theorem dX7_findBest_52 : decode cX7_findBest 52 = .ok (.istore_n 2, 1) := by decide +kernel
theorem dX7_findBest_53 : decode cX7_findBest 53 = .ok (.iconst 0, 1) := by decide +kernel
theorem dX7_findBest_54 : decode cX7_findBest 54 = .ok (.istore 5, 2) := by decide +kernel
theorem dX7_findBest_56 : decode cX7_findBest 56 = .ok (.iload 5, 2) := by decide +kernel
theorem dX7_findBest_58 : decode cX7_findBest 58 = .ok (.aload_n 0, 1) := by decide +kernel
theorem dX7_findBest_59 : decode cX7_findBest 59 = .ok (.getfield 88, 3) := by decide +kernel
theorem dX7_findBest_62 : decode cX7_findBest 62 = .ok (.if_icmp .ge 37, 3) := by decide +kernel
theorem dX7_findBest_65 : decode cX7_findBest 65 = .ok (.aload_n 0, 1) := by decide +kernel
theorem dX7_findBest_66 : decode cX7_findBest 66 = .ok (.getfield 82, 3) := by decide +kernel
theorem dX7_findBest_69 : decode cX7_findBest 69 = .ok (.iload 5, 2) := by decide +kernel
theorem dX7_findBest_71 : decode cX7_findBest 71 = .ok (.aload_n 0, 1) := by decide +kernel
theorem dX7_findBest_72 : decode cX7_findBest 72 = .ok (.getfield 76, 3) := by decide +kernel
theorem dX7_findBest_75 : decode cX7_findBest 75 = .ok (.iload 5, 2) := by decide +kernel
theorem dX7_findBest_77 : decode cX7_findBest 77 = .ok (.iaload, 1) := by decide +kernel
theorem dX7_findBest_78 : decode cX7_findBest 78 = .ok (.iastore, 1) := by decide +kernel
theorem dX7_findBest_79 : decode cX7_findBest 79 = .ok (.aload_n 0, 1) := by decide +kernel
theorem dX7_findBest_80 : decode cX7_findBest 80 = .ok (.getfield 85, 3) := by decide +kernel
theorem dX7_findBest_83 : decode cX7_findBest 83 = .ok (.iload 5, 2) := by decide +kernel
theorem dX7_findBest_85 : decode cX7_findBest 85 = .ok (.aload_n 0, 1) := by decide +kernel
theorem dX7_findBest_86 : decode cX7_findBest 86 = .ok (.getfield 79, 3) := by decide +kernel
theorem dX7_findBest_89 : decode cX7_findBest 89 = .ok (.iload 5, 2) := by decide +kernel
theorem dX7_findBest_91 : decode cX7_findBest 91 = .ok (.iaload, 1) := by decide +kernel
theorem dX7_findBest_92 : decode cX7_findBest 92 = .ok (.iastore, 1) := by decide +kernel
theorem dX7_findBest_93 : decode cX7_findBest 93 = .ok (.iinc 5 1, 3) := by decide +kernel
theorem dX7_findBest_96 : decode cX7_findBest 96 = .ok (.goto (-40), 3) := by decide +kernel
theorem dX7_findBest_99 : decode cX7_findBest 99 = .ok (.iinc 3 1, 3) := by decide +kernel
theorem dX7_findBest_102 : decode cX7_findBest 102 = .ok (.goto (-75), 3) := by decide +kernel
theorem dX7_findBest_105 : decode cX7_findBest 105 = .ok (.iload_n 2, 1) := by decide +kernel
theorem dX7_findBest_106 : decode cX7_findBest 106 = .ok (.ireturn, 1) := by decide +kernel
theorem dX7_takeNumbers_0 : decode cX7_takeNumbers 0 = .ok (.iconst 0, 1) := by decide +kernel
theorem dX7_takeNumbers_1 : decode cX7_takeNumbers 1 = .ok (.istore_n 1, 1) := by decide +kernel
theorem dX7_takeNumbers_2 : decode cX7_takeNumbers 2 = .ok (.iload_n 1, 1) := by decide +kernel
theorem dX7_takeNumbers_3 : decode cX7_takeNumbers 3 = .ok (.aload_n 0, 1) := by decide +kernel
theorem dX7_takeNumbers_4 : decode cX7_takeNumbers 4 = .ok (.getfield 88, 3) := by decide +kernel
theorem dX7_takeNumbers_7 : decode cX7_takeNumbers 7 = .ok (.if_icmp .ge 16, 3) := by decide +kernel
theorem dX7_takeNumbers_10 : decode cX7_takeNumbers 10 = .ok (.aload_n 0, 1) := by decide +kernel
theorem dX7_takeNumbers_11 : decode cX7_takeNumbers 11 = .ok (.getfield 76, 3) := by decide +kernel
theorem dX7_takeNumbers_14 : decode cX7_takeNumbers 14 = .ok (.iload_n 1, 1) := by decide +kernel
theorem dX7_takeNumbers_15 : decode cX7_takeNumbers 15 = .ok (.iload_n 1, 1) := by decide +kernel
theorem dX7_takeNumbers_16 : decode cX7_takeNumbers 16 = .ok (.iastore, 1) := by decide +kernel
theorem dX7_takeNumbers_17 : decode cX7_takeNumbers 17 = .ok (.iinc 1 1, 3) := by decide +kernel
theorem dX7_takeNumbers_20 : decode cX7_takeNumbers 20 = .ok (.goto (-18), 3) := by decide +kernel
theorem dX7_takeNumbers_23 : decode cX7_takeNumbers 23 = .ok (.return_, 1) := by decide +kernel
set_option maxRecDepth 20000 in
theorem ggX7_ready_X7_isUnit : GoodIn wsX7_ready wsX7_isUnit := goodIn_r _ [6, 7, 8, 9, 5, 10, 22, 23, 24, 25, 26, 27, 28, 29, 30, 31, 32, 33, 34, 35, 36, 37, 38, 39, 40, 41, 42, 43, 44, 45, 46, 47, 48, 49, 50, 51] (by decide +kernel) (by decide +kernel)
set_option maxRecDepth 20000 in
theorem gX7_ready_X7_isUnit : GoodIn wsX7_ready (wsV RX7 96 RX7 yX7_isUnit wsX7_isUnit) := goodIn_app (goodIn_of _ (by decide +kernel)) ggX7_ready_X7_isUnit
set_option maxRecDepth 20000 in
theorem ggX7_ready_X7_takeNumbers : GoodIn wsX7_ready wsX7_takeNumbers := goodIn_r _ [14, 7, 15, 22, 23, 24, 25, 26, 27, 28, 29, 30, 31, 32, 33, 34, 35, 36, 37, 38, 39, 40, 41, 42, 43, 44, 45, 46, 47, 48, 49, 50, 51] (by decide +kernel) (by decide +kernel)
set_option maxRecDepth 20000 in
theorem gX7_ready_X7_takeNumbers : GoodIn wsX7_ready (wsV RX7 167 RX7 yX7_takeNumbers wsX7_takeNumbers) := goodIn_app (goodIn_of _ (by decide +kernel)) ggX7_ready_X7_takeNumbers
set_option maxRecDepth 20000 in
theorem ggX7_ready_X7_findEnds : GoodIn wsX7_ready wsX7_findEnds := goodIn_r _ [19, 7, 20, 15, 21, 1, 22, 23, 24, 25, 26, 27, 28, 29, 30, 31, 32, 33, 34, 35, 36, 37, 38, 39, 40, 41, 42, 43, 44, 45, 46, 47, 48, 49, 50, 51] (by decide +kernel) (by decide +kernel)
set_option maxRecDepth 20000 in
theorem gX7_ready_X7_findEnds : GoodIn wsX7_ready (wsV RX7 164 RX7 yX7_findEnds wsX7_findEnds) := goodIn_app (goodIn_of _ (by decide +kernel)) ggX7_ready_X7_findEnds
theorem dX7_ready_0 : decode cX7_ready 0 = .ok (.aload_n 0, 1) := by decide +kernel
theorem dX7_ready_1 : decode cX7_ready 1 = .ok (.iload_n 1, 1) := by decide +kernel
theorem dX7_ready_2 : decode cX7_ready 2 = .ok (.invokevirtual 96, 3) := by decide +kernel
theorem dX7_ready_5 : decode cX7_ready 5 = .ok (.ifCond .ne 6, 3) := by decide +kernel
theorem dX7_ready_8 : decode cX7_ready 8 = .ok (.bipush (-2), 2) := by decide +kernel
theorem dX7_ready_10 : decode cX7_ready 10 = .ok (.ireturn, 1) := by decide +kernel
theorem dX7_ready_11 : decode cX7_ready 11 = .ok (.aload_n 0, 1) := by decide +kernel
theorem dX7_ready_12 : decode cX7_ready 12 = .ok (.invokevirtual 167, 3) := by decide +kernel
theorem dX7_ready_15 : decode cX7_ready 15 = .ok (.aload_n 0, 1) := by decide +kernel
theorem dX7_ready_16 : decode cX7_ready 16 = .ok (.invokevirtual 164, 3) := by decide +kernel
theorem dX7_ready_19 : decode cX7_ready 19 = .ok (.pop, 1) := by decide +kernel
theorem dX7_ready_20 : decode cX7_ready 20 = .ok (.aload_n 0, 1) := by decide +kernel
theorem dX7_ready_21 : decode cX7_ready 21 = .ok (.getfield 79, 3) := by decide +kernel
theorem dX7_ready_24 : decode cX7_ready 24 = .ok (.iload_n 1, 1) := by decide +kernel
theorem dX7_ready_25 : decode cX7_ready 25 = .ok (.iaload, 1) := by decide +kernel
theorem dX7_ready_26 : decode cX7_ready 26 = .ok (.ireturn, 1) := by decide +kernel
set_option maxRecDepth 20000 in
theorem ggX7_ends_X7_findBest : GoodIn wsX7_ends wsX7_findBest := goodIn_r _ [5, 6, 7, 8, 9, 10, 11, 12, 13, 14, 4, 15, 16, 17, 18, 19, 20, 21, 22, 23, 24, 25, 26, 27, 28, 29, 30, 31, 32, 33, 34, 35, 36, 37, 38, 39, 40, 41, 42, 43, 44, 45, 46, 47, 48, 49, 50, 51] (by decide +kernel) (by decide +kernel)
set_option maxRecDepth 20000 in
theorem gX7_ends_X7_findBest : GoodIn wsX7_ends (wsV RX7 170 RX7 yX7_findBest wsX7_findBest) := goodIn_app (goodIn_of _ (by decide +kernel)) ggX7_ends_X7_findBest
theorem dX7_ends_0 : decode cX7_ends 0 = .ok (.aload_n 0, 1) := by decide +kernel
theorem dX7_ends_1 : decode cX7_ends 1 = .ok (.invokevirtual 170, 3) := by decide +kernel
theorem dX7_ends_4 : decode cX7_ends 4 = .ok (.ireturn, 1) := by decide +kernel
set_option maxRecDepth 20000 in
theorem ggX7_best_X7_in : GoodIn wsX7_best wsX7_in := goodIn_r _ [7] (by decide +kernel) (by decide +kernel)
set_option maxRecDepth 20000 in
theorem gX7_best_X7_in : GoodIn wsX7_best (va_wsS RX7 92 yX7_in wsX7_in) := goodIn_app (goodIn_of _ (by decide +kernel)) ggX7_best_X7_in
set_option maxRecDepth 20000 in
theorem ggX7_best_X7_findBest : GoodIn wsX7_best wsX7_findBest := goodIn_r _ [11, 1, 12, 2, 13, 3, 14, 15, 16, 17, 6, 18, 19, 20, 21, 22, 23, 24, 25, 26, 27, 28, 29, 30, 31, 32, 33, 34, 35, 36, 37, 38, 39, 40, 41, 42, 43, 44, 45, 46, 47, 48, 49, 50, 51, 52, 53, 54] (by decide +kernel) (by decide +kernel)
set_option maxRecDepth 20000 in
theorem gX7_best_X7_findBest : GoodIn wsX7_best (wsV RX7 170 RX7 yX7_findBest wsX7_findBest) := goodIn_app (goodIn_of _ (by decide +kernel)) ggX7_best_X7_findBest
theorem dX7_best_0 : decode cX7_best 0 = .ok (.iload_n 1, 1) := by decide +kernel
theorem dX7_best_1 : decode cX7_best 1 = .ok (.iconst 0, 1) := by decide +kernel
theorem dX7_best_2 : decode cX7_best 2 = .ok (.aload_n 0, 1) := by decide +kernel
theorem dX7_best_3 : decode cX7_best 3 = .ok (.getfield 88, 3) := by decide +kernel
theorem dX7_best_6 : decode cX7_best 6 = .ok (.iconst 1, 1) := by decide +kernel
theorem dX7_best_7 : decode cX7_best 7 = .ok (.isub, 1) := by decide +kernel
theorem dX7_best_8 : decode cX7_best 8 = .ok (.invokestatic 92, 3) := by decide +kernel
theorem dX7_best_11 : decode cX7_best 11 = .ok (.ifCond .eq 12, 3) := by decide +kernel
theorem dX7_best_14 : decode cX7_best 14 = .ok (.iload_n 2, 1) := by decide +kernel
theorem dX7_best_15 : decode cX7_best 15 = .ok (.iconst 0, 1) := by decide +kernel
theorem dX7_best_16 : decode cX7_best 16 = .ok (.iconst 1, 1) := by decide +kernel
theorem dX7_best_17 : decode cX7_best 17 = .ok (.invokestatic 92, 3) := by decide +kernel
theorem dX7_best_20 : decode cX7_best 20 = .ok (.ifCond .ne 6, 3) := by decide +kernel
theorem dX7_best_23 : decode cX7_best 23 = .ok (.bipush (-3), 2) := by decide +kernel
theorem dX7_best_25 : decode cX7_best 25 = .ok (.ireturn, 1) := by decide +kernel
theorem dX7_best_26 : decode cX7_best 26 = .ok (.aload_n 0, 1) := by decide +kernel
theorem dX7_best_27 : decode cX7_best 27 = .ok (.invokevirtual 170, 3) := by decide +kernel
theorem dX7_best_30 : decode cX7_best 30 = .ok (.pop, 1) := by decide +kernel
theorem dX7_best_31 : decode cX7_best 31 = .ok (.iload_n 2, 1) := by decide +kernel
theorem dX7_best_32 : decode cX7_best 32 = .ok (.ifCond .ne 12, 3) := by decide +kernel
theorem dX7_best_35 : decode cX7_best 35 = .ok (.aload_n 0, 1) := by decide +kernel
theorem dX7_best_36 : decode cX7_best 36 = .ok (.getfield 82, 3) := by decide +kernel
theorem dX7_best_39 : decode cX7_best 39 = .ok (.iload_n 1, 1) := by decide +kernel
theorem dX7_best_40 : decode cX7_best 40 = .ok (.iaload, 1) := by decide +kernel
theorem dX7_best_41 : decode cX7_best 41 = .ok (.goto 9, 3) := by decide +kernel
theorem dX7_best_44 : decode cX7_best 44 = .ok (.aload_n 0, 1) := by decide +kernel
theorem dX7_best_45 : decode cX7_best 45 = .ok (.getfield 85, 3) := by decide +kernel
theorem dX7_best_48 : decode cX7_best 48 = .ok (.iload_n 1, 1) := by decide +kernel
theorem dX7_best_49 : decode cX7_best 49 = .ok (.iaload, 1) := by decide +kernel
theorem dX7_best_50 : decode cX7_best 50 = .ok (.ireturn, 1) := by decide +kernel
set_option maxRecDepth 20000 in
theorem ggX7_late_X7_in : GoodIn wsX7_late wsX7_in := goodIn_r _ [12] (by decide +kernel) (by decide +kernel)
set_option maxRecDepth 20000 in
theorem gX7_late_X7_in : GoodIn wsX7_late (va_wsS RX7 92 yX7_in wsX7_in) := goodIn_app (goodIn_of _ (by decide +kernel)) ggX7_late_X7_in
set_option maxRecDepth 20000 in
theorem ggX7_late_X7_findRun : GoodIn wsX7_late wsX7_findRun := goodIn_r _ [16, 17, 18, 19, 20, 1, 21, 2, 22, 23, 3, 24, 25, 26, 27, 28, 11, 29, 30, 31, 32, 33, 34, 35, 36, 37, 38, 39, 40, 41, 42, 43, 44, 45, 46, 47, 48, 49, 50, 51, 52, 53, 54, 73, 74, 75, 76, 77, 78, 79, 80, 81, 82, 83, 84, 85, 86, 87, 88, 89, 90, 91, 92, 93, 94, 95, 96, 97, 98, 99, 100, 101, 102] (by decide +kernel) (by decide +kernel)
set_option maxRecDepth 20000 in
theorem gX7_late_X7_findRun : GoodIn wsX7_late (wsV RX7 157 RX7 yX7_findRun wsX7_findRun) := goodIn_app (goodIn_of _ (by decide +kernel)) ggX7_late_X7_findRun
set_option maxRecDepth 20000 in
theorem ggX7_late_X7_takeNumbers : GoodIn wsX7_late wsX7_takeNumbers := goodIn_r _ [58, 4, 5, 73, 74, 75, 76, 77, 78, 79, 80, 81, 82, 83, 84, 85, 86, 87, 88, 89, 90, 91, 92, 93, 94, 95, 96, 97, 98, 99, 100, 101, 102] (by decide +kernel) (by decide +kernel)
set_option maxRecDepth 20000 in
theorem gX7_late_X7_takeNumbers : GoodIn wsX7_late (wsV RX7 167 RX7 yX7_takeNumbers wsX7_takeNumbers) := goodIn_app (goodIn_of _ (by decide +kernel)) ggX7_late_X7_takeNumbers
set_option maxRecDepth 20000 in
theorem ggX7_late_X7_findEnds : GoodIn wsX7_late wsX7_findEnds := goodIn_r _ [62, 4, 63, 5, 64, 7, 73, 74, 75, 76, 77, 78, 79, 80, 81, 82, 83, 84, 85, 86, 87, 88, 89, 90, 91, 92, 93, 94, 95, 96, 97, 98, 99, 100, 101, 102] (by decide +kernel) (by decide +kernel)
set_option maxRecDepth 20000 in
theorem gX7_late_X7_findEnds : GoodIn wsX7_late (wsV RX7 164 RX7 yX7_findEnds wsX7_findEnds) := goodIn_app (goodIn_of _ (by decide +kernel)) ggX7_late_X7_findEnds
set_option maxRecDepth 20000 in
theorem ggX7_late_X7_findBest : GoodIn wsX7_late wsX7_findBest := goodIn_r _ [68, 4, 1, 6, 5, 8, 7, 69, 70, 71, 11, 72, 59, 60, 61, 62, 63, 64, 73, 74, 75, 76, 77, 78, 79, 80, 81, 82, 83, 84, 85, 86, 87, 88, 89, 90, 91, 92, 93, 94, 95, 96, 97, 98, 99, 100, 101, 102] (by decide +kernel) (by decide +kernel)
set_option maxRecDepth 20000 in
theorem gX7_late_X7_findBest : GoodIn wsX7_late (wsV RX7 170 RX7 yX7_findBest wsX7_findBest) := goodIn_app (goodIn_of _ (by decide +kernel)) ggX7_late_X7_findBest
theorem dX7_late_0 : decode cX7_late 0 = .ok (.iload_n 1, 1) := by decide +kernel
theorem dX7_late_1 : decode cX7_late 1 = .ok (.iconst 0, 1) := by decide +kernel
theorem dX7_late_2 : decode cX7_late 2 = .ok (.iconst 1, 1) := by decide +kernel
theorem dX7_late_3 : decode cX7_late 3 = .ok (.invokestatic 92, 3) := by decide +kernel
theorem dX7_late_6 : decode cX7_late 6 = .ok (.ifCond .eq 14, 3) := by decide +kernel
theorem dX7_late_9 : decode cX7_late 9 = .ok (.iload_n 2, 1) := by decide +kernel
theorem dX7_late_10 : decode cX7_late 10 = .ok (.iconst 0, 1) := by decide +kernel
theorem dX7_late_11 : decode cX7_late 11 = .ok (.sipush 1000, 3) := by decide +kernel
theorem dX7_late_14 : decode cX7_late 14 = .ok (.invokestatic 92, 3) := by decide +kernel
theorem dX7_late_17 : decode cX7_late 17 = .ok (.ifCond .ne 6, 3) := by decide +kernel
theorem dX7_late_20 : decode cX7_late 20 = .ok (.bipush (-3), 2) := by decide +kernel
theorem dX7_late_22 : decode cX7_late 22 = .ok (.ireturn, 1) := by decide +kernel
theorem dX7_late_23 : decode cX7_late 23 = .ok (.aload_n 0, 1) := by decide +kernel
theorem dX7_late_24 : decode cX7_late 24 = .ok (.invokevirtual 157, 3) := by decide +kernel
theorem dX7_late_27 : decode cX7_late 27 = .ok (.ldc 153, 2) := by decide +kernel
theorem dX7_late_29 : decode cX7_late 29 = .ok (.if_icmp .ne 6, 3) := by decide +kernel
theorem dX7_late_32 : decode cX7_late 32 = .ok (.bipush (-4), 2) := by decide +kernel
theorem dX7_late_34 : decode cX7_late 34 = .ok (.ireturn, 1) := by decide +kernel
theorem dX7_late_35 : decode cX7_late 35 = .ok (.iload_n 1, 1) := by decide +kernel
theorem dX7_late_36 : decode cX7_late 36 = .ok (.ifCond .ne 15, 3) := by decide +kernel
theorem dX7_late_39 : decode cX7_late 39 = .ok (.aload_n 0, 1) := by decide +kernel
theorem dX7_late_40 : decode cX7_late 40 = .ok (.invokevirtual 167, 3) := by decide +kernel
theorem dX7_late_43 : decode cX7_late 43 = .ok (.aload_n 0, 1) := by decide +kernel
theorem dX7_late_44 : decode cX7_late 44 = .ok (.invokevirtual 164, 3) := by decide +kernel
theorem dX7_late_47 : decode cX7_late 47 = .ok (.pop, 1) := by decide +kernel
theorem dX7_late_48 : decode cX7_late 48 = .ok (.goto 8, 3) := by decide +kernel
theorem dX7_late_51 : decode cX7_late 51 = .ok (.aload_n 0, 1) := by decide +kernel
theorem dX7_late_52 : decode cX7_late 52 = .ok (.invokevirtual 170, 3) := by decide +kernel
theorem dX7_late_55 : decode cX7_late 55 = .ok (.pop, 1) := by decide +kernel
theorem dX7_late_56 : decode cX7_late 56 = .ok (.iconst 0, 1) := by decide +kernel
theorem dX7_late_57 : decode cX7_late 57 = .ok (.istore_n 3, 1) := by decide +kernel
theorem dX7_late_58 : decode cX7_late 58 = .ok (.iconst 0, 1) := by decide +kernel
theorem dX7_late_59 : decode cX7_late 59 = .ok (.istore 4, 2) := by decide +kernel
theorem dX7_late_61 : decode cX7_late 61 = .ok (.iconst 0, 1) := by decide +kernel
theorem dX7_late_62 : decode cX7_late 62 = .ok (.istore 5, 2) := by decide +kernel
theorem dX7_late_64 : decode cX7_late 64 = .ok (.iload 5, 2) := by decide +kernel
theorem dX7_late_66 : decode cX7_late 66 = .ok (.aload_n 0, 1) := by decide +kernel
theorem dX7_late_67 : decode cX7_late 67 = .ok (.getfield 154, 3) := by decide +kernel
theorem dX7_late_70 : decode cX7_late 70 = .ok (.if_icmp .ge 134, 3) := by decide +kernel
theorem dX7_late_73 : decode cX7_late 73 = .ok (.aload_n 0, 1) := by decide +kernel
theorem dX7_late_74 : decode cX7_late 74 = .ok (.getfield 73, 3) := by decide +kernel
theorem dX7_late_77 : decode cX7_late 77 = .ok (.iload 5, 2) := by decide +kernel
theorem dX7_late_79 : decode cX7_late 79 = .ok (.iaload, 1) := by decide +kernel
theorem dX7_late_80 : decode cX7_late 80 = .ok (.istore 6, 2) := by decide +kernel
theorem dX7_late_82 : decode cX7_late 82 = .ok (.iconst 0, 1) := by decide +kernel
theorem dX7_late_83 : decode cX7_late 83 = .ok (.istore 7, 2) := by decide +kernel
theorem dX7_late_85 : decode cX7_late 85 = .ok (.iload 7, 2) := by decide +kernel
theorem dX7_late_87 : decode cX7_late 87 = .ok (.aload_n 0, 1) := by decide +kernel
theorem dX7_late_88 : decode cX7_late 88 = .ok (.getfield 88, 3) := by decide +kernel
theorem dX7_late_91 : decode cX7_late 91 = .ok (.if_icmp .ge 91, 3) := by decide +kernel
theorem dX7_late_94 : decode cX7_late 94 = .ok (.iload 6, 2) := by decide +kernel
theorem dX7_late_96 : decode cX7_late 96 = .ok (.iconst (-1), 1) := by decide +kernel
theorem dX7_late_97 : decode cX7_late 97 = .ok (.if_icmp .eq 85, 3) := by decide +kernel
theorem dX7_late_100 : decode cX7_late 100 = .ok (.iload_n 1, 1) := by decide +kernel
theorem dX7_late_101 : decode cX7_late 101 = .ok (.ifCond .ne 13, 3) := by decide +kernel
theorem dX7_late_104 : decode cX7_late 104 = .ok (.aload_n 0, 1) := by decide +kernel
theorem dX7_late_105 : decode cX7_late 105 = .ok (.getfield 76, 3) := by decide +kernel
theorem dX7_late_108 : decode cX7_late 108 = .ok (.iload 7, 2) := by decide +kernel
theorem dX7_late_110 : decode cX7_late 110 = .ok (.iaload, 1) := by decide +kernel
theorem dX7_late_111 : decode cX7_late 111 = .ok (.goto 10, 3) := by decide +kernel
theorem dX7_late_114 : decode cX7_late 114 = .ok (.aload_n 0, 1) := by decide +kernel
theorem dX7_late_115 : decode cX7_late 115 = .ok (.getfield 82, 3) := by decide +kernel
theorem dX7_late_118 : decode cX7_late 118 = .ok (.iload 7, 2) := by decide +kernel
theorem dX7_late_120 : decode cX7_late 120 = .ok (.iaload, 1) := by decide +kernel
theorem dX7_late_121 : decode cX7_late 121 = .ok (.istore 8, 2) := by decide +kernel
theorem dX7_late_123 : decode cX7_late 123 = .ok (.iload_n 1, 1) := by decide +kernel
theorem dX7_late_124 : decode cX7_late 124 = .ok (.ifCond .ne 13, 3) := by decide +kernel
theorem dX7_late_127 : decode cX7_late 127 = .ok (.aload_n 0, 1) := by decide +kernel
theorem dX7_late_128 : decode cX7_late 128 = .ok (.getfield 79, 3) := by decide +kernel
theorem dX7_late_131 : decode cX7_late 131 = .ok (.iload 7, 2) := by decide +kernel
theorem dX7_late_133 : decode cX7_late 133 = .ok (.iaload, 1) := by decide +kernel
theorem dX7_late_134 : decode cX7_late 134 = .ok (.goto 10, 3) := by decide +kernel
theorem dX7_late_137 : decode cX7_late 137 = .ok (.aload_n 0, 1) := by decide +kernel
theorem dX7_late_138 : decode cX7_late 138 = .ok (.getfield 85, 3) := by decide +kernel
theorem dX7_late_141 : decode cX7_late 141 = .ok (.iload 7, 2) := by decide +kernel
theorem dX7_late_143 : decode cX7_late 143 = .ok (.iaload, 1) := by decide +kernel
theorem dX7_late_144 : decode cX7_late 144 = .ok (.istore 9, 2) := by decide +kernel
theorem dX7_late_146 : decode cX7_late 146 = .ok (.iload_n 3, 1) := by decide +kernel
theorem dX7_late_147 : decode cX7_late 147 = .ok (.iload 8, 2) := by decide +kernel
theorem dX7_late_149 : decode cX7_late 149 = .ok (.iload 6, 2) := by decide +kernel
theorem dX7_late_151 : decode cX7_late 151 = .ok (.if_icmp .ne 22, 3) := by decide +kernel
theorem dX7_late_154 : decode cX7_late 154 = .ok (.iload 9, 2) := by decide +kernel
theorem dX7_late_156 : decode cX7_late 156 = .ok (.iload_n 2, 1) := by decide +kernel
theorem dX7_late_157 : decode cX7_late 157 = .ok (.bipush 10, 2) := by decide +kernel
theorem dX7_late_159 : decode cX7_late 159 = .ok (.iload 4, 2) := by decide +kernel
theorem dX7_late_161 : decode cX7_late 161 = .ok (.imul, 1) := by decide +kernel
theorem dX7_late_162 : decode cX7_late 162 = .ok (.iadd, 1) := by decide +kernel
theorem dX7_late_163 : decode cX7_late 163 = .ok (.if_icmp .le 10, 3) := by decide +kernel
theorem dX7_late_166 : decode cX7_late 166 = .ok (.iconst 1, 1) := by decide +kernel
theorem dX7_late_167 : decode cX7_late 167 = .ok (.iload 6, 2) := by decide +kernel
theorem dX7_late_169 : decode cX7_late 169 = .ok (.ishl, 1) := by decide +kernel
theorem dX7_late_170 : decode cX7_late 170 = .ok (.goto 4, 3) := by decide +kernel
theorem dX7_late_173 : decode cX7_late 173 = .ok (.iconst 0, 1) := by decide +kernel
theorem dX7_late_174 : decode cX7_late 174 = .ok (.ior, 1) := by decide +kernel
theorem dX7_late_175 : decode cX7_late 175 = .ok (.istore_n 3, 1) := by decide +kernel
theorem dX7_late_176 : decode cX7_late 176 = .ok (.iinc 7 1, 3) := by decide +kernel
theorem dX7_late_179 : decode cX7_late 179 = .ok (.goto (-94), 3) := by decide +kernel
theorem dX7_late_182 : decode cX7_late 182 = .ok (.iload 4, 2) := by decide +kernel
theorem dX7_late_184 : decode cX7_late 184 = .ok (.iload 6, 2) := by decide +kernel
theorem dX7_late_186 : decode cX7_late 186 = .ok (.iconst (-1), 1) := by decide +kernel
theorem dX7_late_187 : decode cX7_late 187 = .ok (.if_icmp .ne 7, 3) := by decide +kernel
theorem dX7_late_190 : decode cX7_late 190 = .ok (.iconst 0, 1) := by decide +kernel
theorem dX7_late_191 : decode cX7_late 191 = .ok (.goto 4, 3) := by decide +kernel
theorem dX7_late_194 : decode cX7_late 194 = .ok (.iconst 1, 1) := by decide +kernel
theorem dX7_late_195 : decode cX7_late 195 = .ok (.iadd, 1) := by decide +kernel
theorem dX7_late_196 : decode cX7_late 196 = .ok (.istore 4, 2) := by decide +kernel
theorem dX7_late_198 : decode cX7_late 198 = .ok (.iinc 5 1, 3) := by decide +kernel
theorem dX7_late_201 : decode cX7_late 201 = .ok (.goto (-137), 3) := by decide +kernel
theorem dX7_late_204 : decode cX7_late 204 = .ok (.iload_n 3, 1) := by decide +kernel
theorem dX7_late_205 : decode cX7_late 205 = .ok (.ireturn, 1) := by decide +kernel
theorem dX7_count_0 : decode cX7_count 0 = .ok (.iconst 0, 1) := by decide +kernel
theorem dX7_count_1 : decode cX7_count 1 = .ok (.istore_n 2, 1) := by decide +kernel
theorem dX7_count_2 : decode cX7_count 2 = .ok (.iload_n 1, 1) := by decide +kernel
theorem dX7_count_3 : decode cX7_count 3 = .ok (.tableswitch 79 0 3 #[29, 34, 39, 44], 29) := by decide +kernel
theorem dX7_count_32 : decode cX7_count 32 = .ok (.aload_n 0, 1) := by decide +kernel
theorem dX7_count_33 : decode cX7_count 33 = .ok (.getfield 88, 3) := by decide +kernel
theorem dX7_count_36 : decode cX7_count 36 = .ok (.ireturn, 1) := by decide +kernel
theorem dX7_count_37 : decode cX7_count 37 = .ok (.aload_n 0, 1) := by decide +kernel
theorem dX7_count_38 : decode cX7_count 38 = .ok (.getfield 103, 3) := by decide +kernel
theorem dX7_count_41 : decode cX7_count 41 = .ok (.ireturn, 1) := by decide +kernel
theorem dX7_count_42 : decode cX7_count 42 = .ok (.aload_n 0, 1) := by decide +kernel
theorem dX7_count_43 : decode cX7_count 43 = .ok (.getfield 128, 3) := by decide +kernel
theorem dX7_count_46 : decode cX7_count 46 = .ok (.ireturn, 1) := by decide +kernel
theorem dX7_count_47 : decode cX7_count 47 = .ok (.iconst 0, 1) := by decide +kernel
theorem dX7_count_48 : decode cX7_count 48 = .ok (.istore_n 3, 1) := by decide +kernel
theorem dX7_count_49 : decode cX7_count 49 = .ok (.iload_n 3, 1) := by decide +kernel
theorem dX7_count_50 : decode cX7_count 50 = .ok (.aload_n 0, 1) := by decide +kernel
theorem dX7_count_51 : decode cX7_count 51 = .ok (.getfield 88, 3) := by decide +kernel
theorem dX7_count_54 : decode cX7_count 54 = .ok (.if_icmp .ge 26, 3) := by decide +kernel
theorem dX7_count_57 : decode cX7_count 57 = .ok (.iload_n 2, 1) := by decide +kernel
theorem dX7_count_58 : decode cX7_count 58 = .ok (.aload_n 0, 1) := by decide +kernel
theorem dX7_count_59 : decode cX7_count 59 = .ok (.getfield 19, 3) := by decide +kernel
theorem dX7_count_62 : decode cX7_count 62 = .ok (.iload_n 3, 1) := by decide +kernel
theorem dX7_count_63 : decode cX7_count 63 = .ok (.baload, 1) := by decide +kernel
theorem dX7_count_64 : decode cX7_count 64 = .ok (.ifCond .eq 7, 3) := by decide +kernel
theorem dX7_count_67 : decode cX7_count 67 = .ok (.iconst 1, 1) := by decide +kernel
theorem dX7_count_68 : decode cX7_count 68 = .ok (.goto 4, 3) := by decide +kernel
theorem dX7_count_71 : decode cX7_count 71 = .ok (.iconst 0, 1) := by decide +kernel
theorem dX7_count_72 : decode cX7_count 72 = .ok (.iadd, 1) := by decide +kernel
theorem dX7_count_73 : decode cX7_count 73 = .ok (.istore_n 2, 1) := by decide +kernel
theorem dX7_count_74 : decode cX7_count 74 = .ok (.iinc 3 1, 3) := by decide +kernel
theorem dX7_count_77 : decode cX7_count 77 = .ok (.goto (-28), 3) := by decide +kernel
theorem dX7_count_80 : decode cX7_count 80 = .ok (.iload_n 2, 1) := by decide +kernel
theorem dX7_count_81 : decode cX7_count 81 = .ok (.ireturn, 1) := by decide +kernel
theorem dX7_count_82 : decode cX7_count 82 = .ok (.bipush (-3), 2) := by decide +kernel
theorem dX7_count_84 : decode cX7_count 84 = .ok (.ireturn, 1) := by decide +kernel
theorem dJ6_bitCount_0f7a4_0 : decode cJ6_bitCount_0f7a4 0 = .ok (.iload_n 0, 1) := by decide +kernel
theorem dJ6_bitCount_0f7a4_1 : decode cJ6_bitCount_0f7a4 1 = .ok (.iload_n 0, 1) := by decide +kernel
theorem dJ6_bitCount_0f7a4_2 : decode cJ6_bitCount_0f7a4 2 = .ok (.iconst 1, 1) := by decide +kernel
theorem dJ6_bitCount_0f7a4_3 : decode cJ6_bitCount_0f7a4 3 = .ok (.iushr, 1) := by decide +kernel
theorem dJ6_bitCount_0f7a4_4 : decode cJ6_bitCount_0f7a4 4 = .ok (.ldc_w 265, 3) := by decide +kernel
theorem dJ6_bitCount_0f7a4_7 : decode cJ6_bitCount_0f7a4 7 = .ok (.iand, 1) := by decide +kernel
theorem dJ6_bitCount_0f7a4_8 : decode cJ6_bitCount_0f7a4 8 = .ok (.isub, 1) := by decide +kernel
theorem dJ6_bitCount_0f7a4_9 : decode cJ6_bitCount_0f7a4 9 = .ok (.istore_n 0, 1) := by decide +kernel
theorem dJ6_bitCount_0f7a4_10 : decode cJ6_bitCount_0f7a4 10 = .ok (.iload_n 0, 1) := by decide +kernel
theorem dJ6_bitCount_0f7a4_11 : decode cJ6_bitCount_0f7a4 11 = .ok (.ldc_w 266, 3) := by decide +kernel
theorem dJ6_bitCount_0f7a4_14 : decode cJ6_bitCount_0f7a4 14 = .ok (.iand, 1) := by decide +kernel
theorem dJ6_bitCount_0f7a4_15 : decode cJ6_bitCount_0f7a4 15 = .ok (.iload_n 0, 1) := by decide +kernel
theorem dJ6_bitCount_0f7a4_16 : decode cJ6_bitCount_0f7a4 16 = .ok (.iconst 2, 1) := by decide +kernel
theorem dJ6_bitCount_0f7a4_17 : decode cJ6_bitCount_0f7a4 17 = .ok (.iushr, 1) := by decide +kernel
theorem dJ6_bitCount_0f7a4_18 : decode cJ6_bitCount_0f7a4 18 = .ok (.ldc_w 266, 3) := by decide +kernel
theorem dJ6_bitCount_0f7a4_21 : decode cJ6_bitCount_0f7a4 21 = .ok (.iand, 1) := by decide +kernel
theorem dJ6_bitCount_0f7a4_22 : decode cJ6_bitCount_0f7a4 22 = .ok (.iadd, 1) := by decide +kernel
theorem dJ6_bitCount_0f7a4_23 : decode cJ6_bitCount_0f7a4 23 = .ok (.istore_n 0, 1) := by decide +kernel
theorem dJ6_bitCount_0f7a4_24 : decode cJ6_bitCount_0f7a4 24 = .ok (.iload_n 0, 1) := by decide +kernel
theorem dJ6_bitCount_0f7a4_25 : decode cJ6_bitCount_0f7a4 25 = .ok (.iload_n 0, 1) := by decide +kernel
theorem dJ6_bitCount_0f7a4_26 : decode cJ6_bitCount_0f7a4 26 = .ok (.iconst 4, 1) := by decide +kernel
theorem dJ6_bitCount_0f7a4_27 : decode cJ6_bitCount_0f7a4 27 = .ok (.iushr, 1) := by decide +kernel
theorem dJ6_bitCount_0f7a4_28 : decode cJ6_bitCount_0f7a4 28 = .ok (.iadd, 1) := by decide +kernel
theorem dJ6_bitCount_0f7a4_29 : decode cJ6_bitCount_0f7a4 29 = .ok (.ldc_w 267, 3) := by decide +kernel
theorem dJ6_bitCount_0f7a4_32 : decode cJ6_bitCount_0f7a4 32 = .ok (.iand, 1) := by decide +kernel
theorem dJ6_bitCount_0f7a4_33 : decode cJ6_bitCount_0f7a4 33 = .ok (.istore_n 0, 1) := by decide +kernel
theorem dJ6_bitCount_0f7a4_34 : decode cJ6_bitCount_0f7a4 34 = .ok (.iload_n 0, 1) := by decide +kernel
theorem dJ6_bitCount_0f7a4_35 : decode cJ6_bitCount_0f7a4 35 = .ok (.iload_n 0, 1) := by decide +kernel
theorem dJ6_bitCount_0f7a4_36 : decode cJ6_bitCount_0f7a4 36 = .ok (.bipush 8, 2) := by decide +kernel
theorem dJ6_bitCount_0f7a4_38 : decode cJ6_bitCount_0f7a4 38 = .ok (.iushr, 1) := by decide +kernel
theorem dJ6_bitCount_0f7a4_39 : decode cJ6_bitCount_0f7a4 39 = .ok (.iadd, 1) := by decide +kernel
theorem dJ6_bitCount_0f7a4_40 : decode cJ6_bitCount_0f7a4 40 = .ok (.istore_n 0, 1) := by decide +kernel
theorem dJ6_bitCount_0f7a4_41 : decode cJ6_bitCount_0f7a4 41 = .ok (.iload_n 0, 1) := by decide +kernel
theorem dJ6_bitCount_0f7a4_42 : decode cJ6_bitCount_0f7a4 42 = .ok (.iload_n 0, 1) := by decide +kernel
theorem dJ6_bitCount_0f7a4_43 : decode cJ6_bitCount_0f7a4 43 = .ok (.bipush 16, 2) := by decide +kernel
theorem dJ6_bitCount_0f7a4_45 : decode cJ6_bitCount_0f7a4 45 = .ok (.iushr, 1) := by decide +kernel
theorem dJ6_bitCount_0f7a4_46 : decode cJ6_bitCount_0f7a4 46 = .ok (.iadd, 1) := by decide +kernel
theorem dJ6_bitCount_0f7a4_47 : decode cJ6_bitCount_0f7a4 47 = .ok (.istore_n 0, 1) := by decide +kernel
theorem dJ6_bitCount_0f7a4_48 : decode cJ6_bitCount_0f7a4 48 = .ok (.iload_n 0, 1) := by decide +kernel
theorem dJ6_bitCount_0f7a4_49 : decode cJ6_bitCount_0f7a4 49 = .ok (.bipush 63, 2) := by decide +kernel
theorem dJ6_bitCount_0f7a4_51 : decode cJ6_bitCount_0f7a4 51 = .ok (.iand, 1) := by decide +kernel
theorem dJ6_bitCount_0f7a4_52 : decode cJ6_bitCount_0f7a4 52 = .ok (.ireturn, 1) := by decide +kernel
theorem dJ9_max_7cf53_0 : decode cJ9_max_7cf53 0 = .ok (.iload_n 0, 1) := by decide +kernel
theorem dJ9_max_7cf53_1 : decode cJ9_max_7cf53 1 = .ok (.iload_n 1, 1) := by decide +kernel
theorem dJ9_max_7cf53_2 : decode cJ9_max_7cf53 2 = .ok (.if_icmp .lt 7, 3) := by decide +kernel
theorem dJ9_max_7cf53_5 : decode cJ9_max_7cf53 5 = .ok (.iload_n 0, 1) := by decide +kernel
theorem dJ9_max_7cf53_6 : decode cJ9_max_7cf53 6 = .ok (.goto 4, 3) := by decide +kernel
theorem dJ9_max_7cf53_9 : decode cJ9_max_7cf53 9 = .ok (.iload_n 1, 1) := by decide +kernel
theorem dJ9_max_7cf53_10 : decode cJ9_max_7cf53 10 = .ok (.ireturn, 1) := by decide +kernel
theorem dJ7_fill_53178_0 : decode cJ7_fill_53178 0 = .ok (.iconst 0, 1) := by decide +kernel
theorem dJ7_fill_53178_1 : decode cJ7_fill_53178 1 = .ok (.istore_n 2, 1) := by decide +kernel
theorem dJ7_fill_53178_2 : decode cJ7_fill_53178 2 = .ok (.aload_n 0, 1) := by decide +kernel
theorem dJ7_fill_53178_3 : decode cJ7_fill_53178 3 = .ok (.arraylength, 1) := by decide +kernel
theorem dJ7_fill_53178_4 : decode cJ7_fill_53178 4 = .ok (.istore_n 3, 1) := by decide +kernel
theorem dJ7_fill_53178_5 : decode cJ7_fill_53178 5 = .ok (.iload_n 2, 1) := by decide +kernel
theorem dJ7_fill_53178_6 : decode cJ7_fill_53178 6 = .ok (.iload_n 3, 1) := by decide +kernel
theorem dJ7_fill_53178_7 : decode cJ7_fill_53178 7 = .ok (.if_icmp .ge 13, 3) := by decide +kernel
theorem dJ7_fill_53178_10 : decode cJ7_fill_53178 10 = .ok (.aload_n 0, 1) := by decide +kernel
theorem dJ7_fill_53178_11 : decode cJ7_fill_53178 11 = .ok (.iload_n 2, 1) := by decide +kernel
theorem dJ7_fill_53178_12 : decode cJ7_fill_53178 12 = .ok (.iload_n 1, 1) := by decide +kernel
theorem dJ7_fill_53178_13 : decode cJ7_fill_53178 13 = .ok (.iastore, 1) := by decide +kernel
theorem dJ7_fill_53178_14 : decode cJ7_fill_53178 14 = .ok (.iinc 2 1, 3) := by decide +kernel
theorem dJ7_fill_53178_17 : decode cJ7_fill_53178 17 = .ok (.goto (-12), 3) := by decide +kernel
theorem dJ7_fill_53178_20 : decode cJ7_fill_53178 20 = .ok (.return_, 1) := by decide +kernel
abbrev vwCl : List vw_C := [(RX0, TX0, 11), (RX1, TX1, 6), (RX3, TX3, 6), (RX4, TX4, 7), (RX5, TX5, 8), (RX6, TX6, 4), (RX7, TX7, 30)]
