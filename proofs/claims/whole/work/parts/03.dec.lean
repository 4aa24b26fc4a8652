theorem dX0_init_0 : decode cX0_init 0 = .ok (.aload_n 0, 1) := by decide +kernel
theorem dX0_init_1 : decode cX0_init 1 = .ok (.invokespecial 3, 3) := by decide +kernel
theorem dX0_init_4 : decode cX0_init 4 = .ok (.aload_n 0, 1) := by decide +kernel
theorem dX0_init_5 : decode cX0_init 5 = .ok (.bipush 30, 2) := by decide +kernel
theorem dX0_init_7 : decode cX0_init 7 = .ok (.newarray .int, 2) := by decide +kernel
theorem dX0_init_9 : decode cX0_init 9 = .ok (.putfield 9, 3) := by decide +kernel
theorem dX0_init_12 : decode cX0_init 12 = .ok (.return_, 1) := by decide +kernel
theorem dX0_answer_0 : decode cX0_answer 0 = .ok (.aload_n 0, 1) := by decide +kernel
theorem dX0_answer_1 : decode cX0_answer 1 = .ok (.aload_n 1, 1) := by decide +kernel
theorem dX0_answer_2 : decode cX0_answer 2 = .ok (.invokevirtual 15, 3) := by decide +kernel
theorem dX0_answer_5 : decode cX0_answer 5 = .ok (.putfield 21, 3) := by decide +kernel
theorem dX0_answer_8 : decode cX0_answer 8 = .ok (.aload_n 0, 1) := by decide +kernel
theorem dX0_answer_9 : decode cX0_answer 9 = .ok (.iload_n 2, 1) := by decide +kernel
theorem dX0_answer_10 : decode cX0_answer 10 = .ok (.putfield 25, 3) := by decide +kernel
theorem dX0_answer_13 : decode cX0_answer 13 = .ok (.aload_n 0, 1) := by decide +kernel
theorem dX0_answer_14 : decode cX0_answer 14 = .ok (.aload_n 1, 1) := by decide +kernel
theorem dX0_answer_15 : decode cX0_answer 15 = .ok (.getfield 28, 3) := by decide +kernel
theorem dX0_answer_18 : decode cX0_answer 18 = .ok (.putfield 31, 3) := by decide +kernel
theorem dX0_answer_21 : decode cX0_answer 21 = .ok (.aload_n 0, 1) := by decide +kernel
theorem dX0_answer_22 : decode cX0_answer 22 = .ok (.iconst 0, 1) := by decide +kernel
theorem dX0_answer_23 : decode cX0_answer 23 = .ok (.putfield 32, 3) := by decide +kernel
theorem dX0_answer_26 : decode cX0_answer 26 = .ok (.aload_n 0, 1) := by decide +kernel
theorem dX0_answer_27 : decode cX0_answer 27 = .ok (.aload_n 0, 1) := by decide +kernel
theorem dX0_answer_28 : decode cX0_answer 28 = .ok (.getfield 21, 3) := by decide +kernel
theorem dX0_answer_31 : decode cX0_answer 31 = .ok (.iload_n 3, 1) := by decide +kernel
theorem dX0_answer_32 : decode cX0_answer 32 = .ok (.iload 4, 2) := by decide +kernel
theorem dX0_answer_34 : decode cX0_answer 34 = .ok (.iconst 0, 1) := by decide +kernel
theorem dX0_answer_35 : decode cX0_answer 35 = .ok (.invokevirtual 36, 3) := by decide +kernel
theorem dX0_answer_38 : decode cX0_answer 38 = .ok (.istore 5, 2) := by decide +kernel
theorem dX0_answer_40 : decode cX0_answer 40 = .ok (.aload_n 0, 1) := by decide +kernel
theorem dX0_answer_41 : decode cX0_answer 41 = .ok (.getfield 32, 3) := by decide +kernel
theorem dX0_answer_44 : decode cX0_answer 44 = .ok (.ifCond .eq 8, 3) := by decide +kernel
theorem dX0_answer_47 : decode cX0_answer 47 = .ok (.bipush (-15), 2) := by decide +kernel
theorem dX0_answer_49 : decode cX0_answer 49 = .ok (.goto 5, 3) := by decide +kernel
theorem dX0_answer_52 : decode cX0_answer 52 = .ok (.iload 5, 2) := by decide +kernel
theorem dX0_answer_54 : decode cX0_answer 54 = .ok (.ireturn, 1) := by decide +kernel
theorem dX0_isUnder_0 : decode cX0_isUnder 0 = .ok (.iload_n 1, 1) := by decide +kernel
theorem dX0_isUnder_1 : decode cX0_isUnder 1 = .ok (.istore_n 3, 1) := by decide +kernel
theorem dX0_isUnder_2 : decode cX0_isUnder 2 = .ok (.iconst 0, 1) := by decide +kernel
theorem dX0_isUnder_3 : decode cX0_isUnder 3 = .ok (.istore 4, 2) := by decide +kernel
theorem dX0_isUnder_5 : decode cX0_isUnder 5 = .ok (.iload 4, 2) := by decide +kernel
theorem dX0_isUnder_7 : decode cX0_isUnder 7 = .ok (.bipush 6, 2) := by decide +kernel
theorem dX0_isUnder_9 : decode cX0_isUnder 9 = .ok (.if_icmp .gt 26, 3) := by decide +kernel
theorem dX0_isUnder_12 : decode cX0_isUnder 12 = .ok (.iload_n 3, 1) := by decide +kernel
theorem dX0_isUnder_13 : decode cX0_isUnder 13 = .ok (.ifCond .lt 22, 3) := by decide +kernel
theorem dX0_isUnder_16 : decode cX0_isUnder 16 = .ok (.iload_n 3, 1) := by decide +kernel
theorem dX0_isUnder_17 : decode cX0_isUnder 17 = .ok (.iload_n 2, 1) := by decide +kernel
theorem dX0_isUnder_18 : decode cX0_isUnder 18 = .ok (.if_icmp .ne 5, 3) := by decide +kernel
theorem dX0_isUnder_21 : decode cX0_isUnder 21 = .ok (.iconst 1, 1) := by decide +kernel
theorem dX0_isUnder_22 : decode cX0_isUnder 22 = .ok (.ireturn, 1) := by decide +kernel
theorem dX0_isUnder_23 : decode cX0_isUnder 23 = .ok (.getstatic 40, 3) := by decide +kernel
theorem dX0_isUnder_26 : decode cX0_isUnder 26 = .ok (.iload_n 3, 1) := by decide +kernel
theorem dX0_isUnder_27 : decode cX0_isUnder 27 = .ok (.iaload, 1) := by decide +kernel
theorem dX0_isUnder_28 : decode cX0_isUnder 28 = .ok (.istore_n 3, 1) := by decide +kernel
theorem dX0_isUnder_29 : decode cX0_isUnder 29 = .ok (.iinc 4 1, 3) := by decide +kernel
theorem dX0_isUnder_32 : decode cX0_isUnder 32 = .ok (.goto (-27), 3) := by decide +kernel
theorem dX0_isUnder_35 : decode cX0_isUnder 35 = .ok (.iconst 0, 1) := by decide +kernel
theorem dX0_isUnder_36 : decode cX0_isUnder 36 = .ok (.ireturn, 1) := by decide +kernel
theorem dX0_run_0 : decode cX0_run 0 = .ok (.iload_n 1, 1) := by decide +kernel
theorem dX0_run_1 : decode cX0_run 1 = .ok (.istore 5, 2) := by decide +kernel
theorem dX0_run_3 : decode cX0_run 3 = .ok (.iconst 0, 1) := by decide +kernel
theorem dX0_run_4 : decode cX0_run 4 = .ok (.istore 6, 2) := by decide +kernel
theorem dX0_run_6 : decode cX0_run 6 = .ok (.iload 6, 2) := by decide +kernel
theorem dX0_run_8 : decode cX0_run 8 = .ok (.bipush 6, 2) := by decide +kernel
theorem dX0_run_10 : decode cX0_run 10 = .ok (.if_icmp .gt 35, 3) := by decide +kernel
theorem dX0_run_13 : decode cX0_run 13 = .ok (.iload 5, 2) := by decide +kernel
theorem dX0_run_15 : decode cX0_run 15 = .ok (.ifCond .le 30, 3) := by decide +kernel
theorem dX0_run_18 : decode cX0_run 18 = .ok (.getstatic 43, 3) := by decide +kernel
theorem dX0_run_21 : decode cX0_run 21 = .ok (.iload 5, 2) := by decide +kernel
theorem dX0_run_23 : decode cX0_run 23 = .ok (.iconst 4, 1) := by decide +kernel
theorem dX0_run_24 : decode cX0_run 24 = .ok (.imul, 1) := by decide +kernel
theorem dX0_run_25 : decode cX0_run 25 = .ok (.iload_n 2, 1) := by decide +kernel
theorem dX0_run_26 : decode cX0_run 26 = .ok (.iadd, 1) := by decide +kernel
theorem dX0_run_27 : decode cX0_run 27 = .ok (.iaload, 1) := by decide +kernel
theorem dX0_run_28 : decode cX0_run 28 = .ok (.ifCond .ne 17, 3) := by decide +kernel
theorem dX0_run_31 : decode cX0_run 31 = .ok (.getstatic 40, 3) := by decide +kernel
theorem dX0_run_34 : decode cX0_run 34 = .ok (.iload 5, 2) := by decide +kernel
theorem dX0_run_36 : decode cX0_run 36 = .ok (.iaload, 1) := by decide +kernel
theorem dX0_run_37 : decode cX0_run 37 = .ok (.istore 5, 2) := by decide +kernel
theorem dX0_run_39 : decode cX0_run 39 = .ok (.iinc 6 1, 3) := by decide +kernel
theorem dX0_run_42 : decode cX0_run 42 = .ok (.goto (-36), 3) := by decide +kernel
theorem dX0_run_45 : decode cX0_run 45 = .ok (.aload_n 0, 1) := by decide +kernel
theorem dX0_run_46 : decode cX0_run 46 = .ok (.getfield 32, 3) := by decide +kernel
theorem dX0_run_49 : decode cX0_run 49 = .ok (.ifCond .ne 15, 3) := by decide +kernel
theorem dX0_run_52 : decode cX0_run 52 = .ok (.iload 5, 2) := by decide +kernel
theorem dX0_run_54 : decode cX0_run 54 = .ok (.ifCond .lt 10, 3) := by decide +kernel
theorem dX0_run_57 : decode cX0_run 57 = .ok (.iload 4, 2) := by decide +kernel
theorem dX0_run_59 : decode cX0_run 59 = .ok (.bipush 40, 2) := by decide +kernel
theorem dX0_run_61 : decode cX0_run 61 = .ok (.if_icmp .lt 5, 3) := by decide +kernel
theorem dX0_run_64 : decode cX0_run 64 = .ok (.iconst 0, 1) := by decide +kernel
theorem dX0_run_65 : decode cX0_run 65 = .ok (.ireturn, 1) := by decide +kernel
theorem dX0_run_66 : decode cX0_run 66 = .ok (.getstatic 43, 3) := by decide +kernel
theorem dX0_run_69 : decode cX0_run 69 = .ok (.iload 5, 2) := by decide +kernel
theorem dX0_run_71 : decode cX0_run 71 = .ok (.iconst 4, 1) := by decide +kernel
theorem dX0_run_72 : decode cX0_run 72 = .ok (.imul, 1) := by decide +kernel
theorem dX0_run_73 : decode cX0_run 73 = .ok (.iload_n 2, 1) := by decide +kernel
theorem dX0_run_74 : decode cX0_run 74 = .ok (.iadd, 1) := by decide +kernel
theorem dX0_run_75 : decode cX0_run 75 = .ok (.iaload, 1) := by decide +kernel
theorem dX0_run_76 : decode cX0_run 76 = .ok (.istore 6, 2) := by decide +kernel
theorem dX0_run_78 : decode cX0_run 78 = .ok (.getstatic 40, 3) := by decide +kernel
theorem dX0_run_81 : decode cX0_run 81 = .ok (.iload 5, 2) := by decide +kernel
theorem dX0_run_83 : decode cX0_run 83 = .ok (.iaload, 1) := by decide +kernel
theorem dX0_run_84 : decode cX0_run 84 = .ok (.istore 7, 2) := by decide +kernel
theorem dX0_run_86 : decode cX0_run 86 = .ok (.iload 4, 2) := by decide +kernel
theorem dX0_run_88 : decode cX0_run 88 = .ok (.iconst 1, 1) := by decide +kernel
theorem dX0_run_89 : decode cX0_run 89 = .ok (.iadd, 1) := by decide +kernel
theorem dX0_run_90 : decode cX0_run 90 = .ok (.istore 8, 2) := by decide +kernel
theorem dX0_run_92 : decode cX0_run 92 = .ok (.aload_n 0, 1) := by decide +kernel
theorem dX0_run_93 : decode cX0_run 93 = .ok (.iload 6, 2) := by decide +kernel
theorem dX0_run_95 : decode cX0_run 95 = .ok (.invokevirtual 46, 3) := by decide +kernel
theorem dX0_run_98 : decode cX0_run 98 = .ok (.iload 6, 2) := by decide +kernel
theorem dX0_run_100 : decode cX0_run 100 = .ok (.lookupswitch 289 #[(10, 108), (11, 115), (12, 130), (13, 136), (20, 154), (30, 167), (31, 191), (40, 204), (41, 220), (50, 233), (60, 246), (70, 275)], 108) := by decide +kernel
theorem dX0_run_208 : decode cX0_run 208 = .ok (.iload_n 3, 1) := by decide +kernel
theorem dX0_run_209 : decode cX0_run 209 = .ok (.aload_n 0, 1) := by decide +kernel
theorem dX0_run_210 : decode cX0_run 210 = .ok (.getfield 31, 3) := by decide +kernel
theorem dX0_run_213 : decode cX0_run 213 = .ok (.iadd, 1) := by decide +kernel
theorem dX0_run_214 : decode cX0_run 214 = .ok (.ireturn, 1) := by decide +kernel
theorem dX0_run_215 : decode cX0_run 215 = .ok (.aload_n 0, 1) := by decide +kernel
theorem dX0_run_216 : decode cX0_run 216 = .ok (.aload_n 0, 1) := by decide +kernel
theorem dX0_run_217 : decode cX0_run 217 = .ok (.getfield 21, 3) := by decide +kernel
theorem dX0_run_220 : decode cX0_run 220 = .ok (.iconst 0, 1) := by decide +kernel
theorem dX0_run_221 : decode cX0_run 221 = .ok (.iload_n 3, 1) := by decide +kernel
theorem dX0_run_222 : decode cX0_run 222 = .ok (.iload 8, 2) := by decide +kernel
theorem dX0_run_224 : decode cX0_run 224 = .ok (.invokevirtual 36, 3) := by decide +kernel
theorem dX0_run_227 : decode cX0_run 227 = .ok (.iconst 2, 1) := by decide +kernel
theorem dX0_run_228 : decode cX0_run 228 = .ok (.imul, 1) := by decide +kernel
theorem dX0_run_229 : decode cX0_run 229 = .ok (.ireturn, 1) := by decide +kernel
theorem dX0_run_230 : decode cX0_run 230 = .ok (.aload_n 0, 1) := by decide +kernel
theorem dX0_run_231 : decode cX0_run 231 = .ok (.iload_n 3, 1) := by decide +kernel
theorem dX0_run_232 : decode cX0_run 232 = .ok (.invokevirtual 50, 3) := by decide +kernel
theorem dX0_run_235 : decode cX0_run 235 = .ok (.ireturn, 1) := by decide +kernel
theorem dX0_run_236 : decode cX0_run 236 = .ok (.aload_n 0, 1) := by decide +kernel
theorem dX0_run_237 : decode cX0_run 237 = .ok (.aload_n 0, 1) := by decide +kernel
theorem dX0_run_238 : decode cX0_run 238 = .ok (.getfield 21, 3) := by decide +kernel
theorem dX0_run_241 : decode cX0_run 241 = .ok (.iconst 1, 1) := by decide +kernel
theorem dX0_run_242 : decode cX0_run 242 = .ok (.iload_n 3, 1) := by decide +kernel
theorem dX0_run_243 : decode cX0_run 243 = .ok (.iload 8, 2) := by decide +kernel
theorem dX0_run_245 : decode cX0_run 245 = .ok (.invokevirtual 36, 3) := by decide +kernel
theorem dX0_run_248 : decode cX0_run 248 = .ok (.aload_n 0, 1) := by decide +kernel
theorem dX0_run_249 : decode cX0_run 249 = .ok (.getfield 25, 3) := by decide +kernel
theorem dX0_run_252 : decode cX0_run 252 = .ok (.ixor, 1) := by decide +kernel
theorem dX0_run_253 : decode cX0_run 253 = .ok (.ireturn, 1) := by decide +kernel
theorem dX0_run_254 : decode cX0_run 254 = .ok (.aload_n 0, 1) := by decide +kernel
theorem dX0_run_255 : decode cX0_run 255 = .ok (.iload 7, 2) := by decide +kernel
theorem dX0_run_257 : decode cX0_run 257 = .ok (.iconst 0, 1) := by decide +kernel
theorem dX0_run_258 : decode cX0_run 258 = .ok (.iload_n 3, 1) := by decide +kernel
theorem dX0_run_259 : decode cX0_run 259 = .ok (.iload 8, 2) := by decide +kernel
theorem dX0_run_261 : decode cX0_run 261 = .ok (.invokevirtual 36, 3) := by decide +kernel
theorem dX0_run_264 : decode cX0_run 264 = .ok (.iconst 3, 1) := by decide +kernel
theorem dX0_run_265 : decode cX0_run 265 = .ok (.isub, 1) := by decide +kernel
theorem dX0_run_266 : decode cX0_run 266 = .ok (.ireturn, 1) := by decide +kernel
theorem dX0_run_267 : decode cX0_run 267 = .ok (.aload_n 0, 1) := by decide +kernel
theorem dX0_run_268 : decode cX0_run 268 = .ok (.iload 7, 2) := by decide +kernel
theorem dX0_run_270 : decode cX0_run 270 = .ok (.iconst 1, 1) := by decide +kernel
theorem dX0_run_271 : decode cX0_run 271 = .ok (.iload_n 3, 1) := by decide +kernel
theorem dX0_run_272 : decode cX0_run 272 = .ok (.iload 8, 2) := by decide +kernel
theorem dX0_run_274 : decode cX0_run 274 = .ok (.invokevirtual 36, 3) := by decide +kernel
theorem dX0_run_277 : decode cX0_run 277 = .ok (.aload_n 0, 1) := by decide +kernel
theorem dX0_run_278 : decode cX0_run 278 = .ok (.aload_n 0, 1) := by decide +kernel
theorem dX0_run_279 : decode cX0_run 279 = .ok (.getfield 21, 3) := by decide +kernel
theorem dX0_run_282 : decode cX0_run 282 = .ok (.iconst 0, 1) := by decide +kernel
theorem dX0_run_283 : decode cX0_run 283 = .ok (.iconst 2, 1) := by decide +kernel
theorem dX0_run_284 : decode cX0_run 284 = .ok (.iload 8, 2) := by decide +kernel
theorem dX0_run_286 : decode cX0_run 286 = .ok (.invokevirtual 36, 3) := by decide +kernel
theorem dX0_run_289 : decode cX0_run 289 = .ok (.iadd, 1) := by decide +kernel
theorem dX0_run_290 : decode cX0_run 290 = .ok (.ireturn, 1) := by decide +kernel
theorem dX0_run_291 : decode cX0_run 291 = .ok (.aload_n 0, 1) := by decide +kernel
theorem dX0_run_292 : decode cX0_run 292 = .ok (.iload 7, 2) := by decide +kernel
theorem dX0_run_294 : decode cX0_run 294 = .ok (.iconst 3, 1) := by decide +kernel
theorem dX0_run_295 : decode cX0_run 295 = .ok (.iload_n 3, 1) := by decide +kernel
theorem dX0_run_296 : decode cX0_run 296 = .ok (.iload 8, 2) := by decide +kernel
theorem dX0_run_298 : decode cX0_run 298 = .ok (.invokevirtual 36, 3) := by decide +kernel
theorem dX0_run_301 : decode cX0_run 301 = .ok (.iconst 5, 1) := by decide +kernel
theorem dX0_run_302 : decode cX0_run 302 = .ok (.imul, 1) := by decide +kernel
theorem dX0_run_303 : decode cX0_run 303 = .ok (.ireturn, 1) := by decide +kernel
theorem dX0_run_304 : decode cX0_run 304 = .ok (.aload_n 0, 1) := by decide +kernel
theorem dX0_run_305 : decode cX0_run 305 = .ok (.iload 7, 2) := by decide +kernel
theorem dX0_run_307 : decode cX0_run 307 = .ok (.iconst 0, 1) := by decide +kernel
theorem dX0_run_308 : decode cX0_run 308 = .ok (.iload_n 3, 1) := by decide +kernel
theorem dX0_run_309 : decode cX0_run 309 = .ok (.iload 8, 2) := by decide +kernel
theorem dX0_run_311 : decode cX0_run 311 = .ok (.invokevirtual 36, 3) := by decide +kernel
theorem dX0_run_314 : decode cX0_run 314 = .ok (.aload_n 0, 1) := by decide +kernel
theorem dX0_run_315 : decode cX0_run 315 = .ok (.getfield 31, 3) := by decide +kernel
theorem dX0_run_318 : decode cX0_run 318 = .ok (.ixor, 1) := by decide +kernel
theorem dX0_run_319 : decode cX0_run 319 = .ok (.ireturn, 1) := by decide +kernel
theorem dX0_run_320 : decode cX0_run 320 = .ok (.aload_n 0, 1) := by decide +kernel
theorem dX0_run_321 : decode cX0_run 321 = .ok (.iload 7, 2) := by decide +kernel
theorem dX0_run_323 : decode cX0_run 323 = .ok (.iconst 2, 1) := by decide +kernel
theorem dX0_run_324 : decode cX0_run 324 = .ok (.iload_n 3, 1) := by decide +kernel
theorem dX0_run_325 : decode cX0_run 325 = .ok (.iconst 1, 1) := by decide +kernel
theorem dX0_run_326 : decode cX0_run 326 = .ok (.isub, 1) := by decide +kernel
theorem dX0_run_327 : decode cX0_run 327 = .ok (.iload 8, 2) := by decide +kernel
theorem dX0_run_329 : decode cX0_run 329 = .ok (.invokevirtual 36, 3) := by decide +kernel
theorem dX0_run_332 : decode cX0_run 332 = .ok (.ireturn, 1) := by decide +kernel
theorem dX0_run_333 : decode cX0_run 333 = .ok (.iconst 0, 1) := by decide +kernel
theorem dX0_run_334 : decode cX0_run 334 = .ok (.aload_n 0, 1) := by decide +kernel
theorem dX0_run_335 : decode cX0_run 335 = .ok (.iload 7, 2) := by decide +kernel
theorem dX0_run_337 : decode cX0_run 337 = .ok (.iconst 1, 1) := by decide +kernel
theorem dX0_run_338 : decode cX0_run 338 = .ok (.iload_n 3, 1) := by decide +kernel
theorem dX0_run_339 : decode cX0_run 339 = .ok (.iload 8, 2) := by decide +kernel
theorem dX0_run_341 : decode cX0_run 341 = .ok (.invokevirtual 36, 3) := by decide +kernel
theorem dX0_run_344 : decode cX0_run 344 = .ok (.isub, 1) := by decide +kernel
theorem dX0_run_345 : decode cX0_run 345 = .ok (.ireturn, 1) := by decide +kernel
theorem dX0_run_346 : decode cX0_run 346 = .ok (.aload_n 0, 1) := by decide +kernel
theorem dX0_run_347 : decode cX0_run 347 = .ok (.iload 7, 2) := by decide +kernel
theorem dX0_run_349 : decode cX0_run 349 = .ok (.iconst 3, 1) := by decide +kernel
theorem dX0_run_350 : decode cX0_run 350 = .ok (.iload_n 3, 1) := by decide +kernel
theorem dX0_run_351 : decode cX0_run 351 = .ok (.iload 8, 2) := by decide +kernel
theorem dX0_run_353 : decode cX0_run 353 = .ok (.invokevirtual 36, 3) := by decide +kernel
theorem dX0_run_356 : decode cX0_run 356 = .ok (.aload_n 0, 1) := by decide +kernel
theorem dX0_run_357 : decode cX0_run 357 = .ok (.aload_n 0, 1) := by decide +kernel
theorem dX0_run_358 : decode cX0_run 358 = .ok (.getfield 21, 3) := by decide +kernel
theorem dX0_run_361 : decode cX0_run 361 = .ok (.iconst 2, 1) := by decide +kernel
theorem dX0_run_362 : decode cX0_run 362 = .ok (.aload_n 0, 1) := by decide +kernel
theorem dX0_run_363 : decode cX0_run 363 = .ok (.getfield 25, 3) := by decide +kernel
theorem dX0_run_366 : decode cX0_run 366 = .ok (.iconst 1, 1) := by decide +kernel
theorem dX0_run_367 : decode cX0_run 367 = .ok (.iadd, 1) := by decide +kernel
theorem dX0_run_368 : decode cX0_run 368 = .ok (.iload 8, 2) := by decide +kernel
theorem dX0_run_370 : decode cX0_run 370 = .ok (.invokevirtual 36, 3) := by decide +kernel
theorem dX0_run_373 : decode cX0_run 373 = .ok (.iadd, 1) := by decide +kernel
theorem dX0_run_374 : decode cX0_run 374 = .ok (.ireturn, 1) := by decide +kernel
theorem dX0_run_375 : decode cX0_run 375 = .ok (.aload_n 0, 1) := by decide +kernel
theorem dX0_run_376 : decode cX0_run 376 = .ok (.iload 7, 2) := by decide +kernel
theorem dX0_run_378 : decode cX0_run 378 = .ok (.iconst 0, 1) := by decide +kernel
theorem dX0_run_379 : decode cX0_run 379 = .ok (.iload_n 3, 1) := by decide +kernel
theorem dX0_run_380 : decode cX0_run 380 = .ok (.iload 8, 2) := by decide +kernel
theorem dX0_run_382 : decode cX0_run 382 = .ok (.invokevirtual 36, 3) := by decide +kernel
theorem dX0_run_385 : decode cX0_run 385 = .ok (.bipush 7, 2) := by decide +kernel
theorem dX0_run_387 : decode cX0_run 387 = .ok (.imul, 1) := by decide +kernel
theorem dX0_run_388 : decode cX0_run 388 = .ok (.ireturn, 1) := by decide +kernel
theorem dX0_run_389 : decode cX0_run 389 = .ok (.iconst 0, 1) := by decide +kernel
theorem dX0_run_390 : decode cX0_run 390 = .ok (.ireturn, 1) := by decide +kernel
theorem dX0_parted_0 : decode cX0_parted 0 = .ok (.aload_n 0, 1) := by decide +kernel
theorem dX0_parted_1 : decode cX0_parted 1 = .ok (.getfield 31, 3) := by decide +kernel
theorem dX0_parted_4 : decode cX0_parted 4 = .ok (.aload_n 0, 1) := by decide +kernel
theorem dX0_parted_5 : decode cX0_parted 5 = .ok (.getfield 25, 3) := by decide +kernel
theorem dX0_parted_8 : decode cX0_parted 8 = .ok (.isub, 1) := by decide +kernel
theorem dX0_parted_9 : decode cX0_parted 9 = .ok (.istore_n 2, 1) := by decide +kernel
theorem dX0_parted_10 : decode cX0_parted 10 = .ok (.aload_n 0, 1) := by decide +kernel
theorem dX0_parted_11 : decode cX0_parted 11 = .ok (.iload_n 2, 1) := by decide +kernel
theorem dX0_parted_12 : decode cX0_parted 12 = .ok (.ifCond .ne 7, 3) := by decide +kernel
theorem dX0_parted_15 : decode cX0_parted 15 = .ok (.iconst 1, 1) := by decide +kernel
theorem dX0_parted_16 : decode cX0_parted 16 = .ok (.goto 4, 3) := by decide +kernel
theorem dX0_parted_19 : decode cX0_parted 19 = .ok (.iconst 0, 1) := by decide +kernel
theorem dX0_parted_20 : decode cX0_parted 20 = .ok (.putfield 32, 3) := by decide +kernel
theorem dX0_parted_23 : decode cX0_parted 23 = .ok (.iload_n 2, 1) := by decide +kernel
theorem dX0_parted_24 : decode cX0_parted 24 = .ok (.ifCond .ne 7, 3) := by decide +kernel
theorem dX0_parted_27 : decode cX0_parted 27 = .ok (.iconst 0, 1) := by decide +kernel
theorem dX0_parted_28 : decode cX0_parted 28 = .ok (.goto 6, 3) := by decide +kernel
theorem dX0_parted_31 : decode cX0_parted 31 = .ok (.iload_n 1, 1) := by decide +kernel
theorem dX0_parted_32 : decode cX0_parted 32 = .ok (.iload_n 2, 1) := by decide +kernel
theorem dX0_parted_33 : decode cX0_parted 33 = .ok (.idiv, 1) := by decide +kernel
theorem dX0_parted_34 : decode cX0_parted 34 = .ok (.ireturn, 1) := by decide +kernel
theorem dX0_note_0 : decode cX0_note 0 = .ok (.aload_n 0, 1) := by decide +kernel
theorem dX0_note_1 : decode cX0_note 1 = .ok (.getfield 54, 3) := by decide +kernel
theorem dX0_note_4 : decode cX0_note 4 = .ok (.bipush 30, 2) := by decide +kernel
theorem dX0_note_6 : decode cX0_note 6 = .ok (.if_icmp .lt 4, 3) := by decide +kernel
theorem dX0_note_9 : decode cX0_note 9 = .ok (.return_, 1) := by decide +kernel
theorem dX0_note_10 : decode cX0_note 10 = .ok (.aload_n 0, 1) := by decide +kernel
theorem dX0_note_11 : decode cX0_note 11 = .ok (.getfield 9, 3) := by decide +kernel
theorem dX0_note_14 : decode cX0_note 14 = .ok (.aload_n 0, 1) := by decide +kernel
theorem dX0_note_15 : decode cX0_note 15 = .ok (.getfield 54, 3) := by decide +kernel
theorem dX0_note_18 : decode cX0_note 18 = .ok (.iload_n 1, 1) := by decide +kernel
theorem dX0_note_19 : decode cX0_note 19 = .ok (.iastore, 1) := by decide +kernel
theorem dX0_note_20 : decode cX0_note 20 = .ok (.aload_n 0, 1) := by decide +kernel
theorem dX0_note_21 : decode cX0_note 21 = .ok (.dup, 1) := by decide +kernel
theorem dX0_note_22 : decode cX0_note 22 = .ok (.getfield 54, 3) := by decide +kernel
theorem dX0_note_25 : decode cX0_note 25 = .ok (.iconst 1, 1) := by decide +kernel
theorem dX0_note_26 : decode cX0_note 26 = .ok (.iadd, 1) := by decide +kernel
theorem dX0_note_27 : decode cX0_note 27 = .ok (.putfield 54, 3) := by decide +kernel
theorem dX0_note_30 : decode cX0_note 30 = .ok (.return_, 1) := by decide +kernel
theorem dX1_init_0 : decode cX1_init 0 = .ok (.aload_n 0, 1) := by decide +kernel
theorem dX1_init_1 : decode cX1_init 1 = .ok (.invokespecial 3, 3) := by decide +kernel
theorem dX1_init_4 : decode cX1_init 4 = .ok (.aload_n 0, 1) := by decide +kernel
theorem dX1_init_5 : decode cX1_init 5 = .ok (.iconst 5, 1) := by decide +kernel
theorem dX1_init_6 : decode cX1_init 6 = .ok (.newarray .int, 2) := by decide +kernel
theorem dX1_init_8 : decode cX1_init 8 = .ok (.putfield 9, 3) := by decide +kernel
theorem dX1_init_11 : decode cX1_init 11 = .ok (.aload_n 0, 1) := by decide +kernel
theorem dX1_init_12 : decode cX1_init 12 = .ok (.iconst 5, 1) := by decide +kernel
theorem dX1_init_13 : decode cX1_init 13 = .ok (.newarray .int, 2) := by decide +kernel
theorem dX1_init_15 : decode cX1_init 15 = .ok (.putfield 15, 3) := by decide +kernel
theorem dX1_init_18 : decode cX1_init 18 = .ok (.aload_n 0, 1) := by decide +kernel
theorem dX1_init_19 : decode cX1_init 19 = .ok (.iconst 5, 1) := by decide +kernel
theorem dX1_init_20 : decode cX1_init 20 = .ok (.newarray .int, 2) := by decide +kernel
theorem dX1_init_22 : decode cX1_init 22 = .ok (.putfield 18, 3) := by decide +kernel
theorem dX1_init_25 : decode cX1_init 25 = .ok (.aload_n 0, 1) := by decide +kernel
theorem dX1_init_26 : decode cX1_init 26 = .ok (.bipush 10, 2) := by decide +kernel
theorem dX1_init_28 : decode cX1_init 28 = .ok (.newarray .int, 2) := by decide +kernel
theorem dX1_init_30 : decode cX1_init 30 = .ok (.putfield 21, 3) := by decide +kernel
theorem dX1_init_33 : decode cX1_init 33 = .ok (.aload_n 0, 1) := by decide +kernel
theorem dX1_init_34 : decode cX1_init 34 = .ok (.bipush 10, 2) := by decide +kernel
theorem dX1_init_36 : decode cX1_init 36 = .ok (.newarray .int, 2) := by decide +kernel
theorem dX1_init_38 : decode cX1_init 38 = .ok (.putfield 24, 3) := by decide +kernel
theorem dX1_init_41 : decode cX1_init 41 = .ok (.aload_n 0, 1) := by decide +kernel
theorem dX1_init_42 : decode cX1_init 42 = .ok (.bipush 10, 2) := by decide +kernel
theorem dX1_init_44 : decode cX1_init 44 = .ok (.newarray .int, 2) := by decide +kernel
theorem dX1_init_46 : decode cX1_init 46 = .ok (.putfield 27, 3) := by decide +kernel
theorem dX1_init_49 : decode cX1_init 49 = .ok (.aload_n 0, 1) := by decide +kernel
theorem dX1_init_50 : decode cX1_init 50 = .ok (.bipush 10, 2) := by decide +kernel
theorem dX1_init_52 : decode cX1_init 52 = .ok (.newarray .int, 2) := by decide +kernel
theorem dX1_init_54 : decode cX1_init 54 = .ok (.putfield 30, 3) := by decide +kernel
theorem dX1_init_57 : decode cX1_init 57 = .ok (.aload_n 0, 1) := by decide +kernel
theorem dX1_init_58 : decode cX1_init 58 = .ok (.bipush 10, 2) := by decide +kernel
theorem dX1_init_60 : decode cX1_init 60 = .ok (.newarray .int, 2) := by decide +kernel
theorem dX1_init_62 : decode cX1_init 62 = .ok (.putfield 33, 3) := by decide +kernel
theorem dX1_init_65 : decode cX1_init 65 = .ok (.aload_n 0, 1) := by decide +kernel
theorem dX1_init_66 : decode cX1_init 66 = .ok (.bipush 10, 2) := by decide +kernel
theorem dX1_init_68 : decode cX1_init 68 = .ok (.newarray .int, 2) := by decide +kernel
theorem dX1_init_70 : decode cX1_init 70 = .ok (.putfield 36, 3) := by decide +kernel
theorem dX1_init_73 : decode cX1_init 73 = .ok (.aload_n 0, 1) := by decide +kernel
theorem dX1_init_74 : decode cX1_init 74 = .ok (.bipush 10, 2) := by decide +kernel
theorem dX1_init_76 : decode cX1_init 76 = .ok (.newarray .int, 2) := by decide +kernel
theorem dX1_init_78 : decode cX1_init 78 = .ok (.putfield 39, 3) := by decide +kernel
theorem dX1_init_81 : decode cX1_init 81 = .ok (.aload_n 0, 1) := by decide +kernel
theorem dX1_init_82 : decode cX1_init 82 = .ok (.sipush 145, 3) := by decide +kernel
theorem dX1_init_85 : decode cX1_init 85 = .ok (.newarray .long, 2) := by decide +kernel
theorem dX1_init_87 : decode cX1_init 87 = .ok (.putfield 42, 3) := by decide +kernel
theorem dX1_init_90 : decode cX1_init 90 = .ok (.aload_n 0, 1) := by decide +kernel
theorem dX1_init_91 : decode cX1_init 91 = .ok (.bipush 84, 2) := by decide +kernel
theorem dX1_init_93 : decode cX1_init 93 = .ok (.newarray .int, 2) := by decide +kernel
theorem dX1_init_95 : decode cX1_init 95 = .ok (.putfield 46, 3) := by decide +kernel
theorem dX1_init_98 : decode cX1_init 98 = .ok (.return_, 1) := by decide +kernel
theorem dX1_setUp_0 : decode cX1_setUp 0 = .ok (.aload_n 0, 1) := by decide +kernel
theorem dX1_setUp_1 : decode cX1_setUp 1 = .ok (.aload_n 1, 1) := by decide +kernel
theorem dX1_setUp_2 : decode cX1_setUp 2 = .ok (.getfield 49, 3) := by decide +kernel
theorem dX1_setUp_5 : decode cX1_setUp 5 = .ok (.putfield 55, 3) := by decide +kernel
theorem dX1_setUp_8 : decode cX1_setUp 8 = .ok (.aload_n 0, 1) := by decide +kernel
theorem dX1_setUp_9 : decode cX1_setUp 9 = .ok (.aload_n 1, 1) := by decide +kernel
theorem dX1_setUp_10 : decode cX1_setUp 10 = .ok (.getfield 58, 3) := by decide +kernel
theorem dX1_setUp_13 : decode cX1_setUp 13 = .ok (.putfield 46, 3) := by decide +kernel
theorem dX1_setUp_16 : decode cX1_setUp 16 = .ok (.aload_n 0, 1) := by decide +kernel
theorem dX1_setUp_17 : decode cX1_setUp 17 = .ok (.getfield 9, 3) := by decide +kernel
theorem dX1_setUp_20 : decode cX1_setUp 20 = .ok (.iconst 0, 1) := by decide +kernel
theorem dX1_setUp_21 : decode cX1_setUp 21 = .ok (.iconst 0, 1) := by decide +kernel
theorem dX1_setUp_22 : decode cX1_setUp 22 = .ok (.iastore, 1) := by decide +kernel
theorem dX1_setUp_23 : decode cX1_setUp 23 = .ok (.aload_n 0, 1) := by decide +kernel
theorem dX1_setUp_24 : decode cX1_setUp 24 = .ok (.getfield 9, 3) := by decide +kernel
theorem dX1_setUp_27 : decode cX1_setUp 27 = .ok (.iconst 1, 1) := by decide +kernel
theorem dX1_setUp_28 : decode cX1_setUp 28 = .ok (.iload_n 3, 1) := by decide +kernel
theorem dX1_setUp_29 : decode cX1_setUp 29 = .ok (.iastore, 1) := by decide +kernel
theorem dX1_setUp_30 : decode cX1_setUp 30 = .ok (.aload_n 0, 1) := by decide +kernel
theorem dX1_setUp_31 : decode cX1_setUp 31 = .ok (.getfield 18, 3) := by decide +kernel
theorem dX1_setUp_34 : decode cX1_setUp 34 = .ok (.iconst 4, 1) := by decide +kernel
theorem dX1_setUp_35 : decode cX1_setUp 35 = .ok (.invokestatic 59, 3) := by decide +kernel
theorem dX1_setUp_38 : decode cX1_setUp 38 = .ok (.iconst 0, 1) := by decide +kernel
theorem dX1_setUp_39 : decode cX1_setUp 39 = .ok (.istore 4, 2) := by decide +kernel
theorem dX1_setUp_41 : decode cX1_setUp 41 = .ok (.iload 4, 2) := by decide +kernel
theorem dX1_setUp_43 : decode cX1_setUp 43 = .ok (.aload_n 0, 1) := by decide +kernel
theorem dX1_setUp_44 : decode cX1_setUp 44 = .ok (.getfield 55, 3) := by decide +kernel
theorem dX1_setUp_47 : decode cX1_setUp 47 = .ok (.if_icmp .ge 158, 3) := by decide +kernel
theorem dX1_setUp_50 : decode cX1_setUp 50 = .ok (.aload_n 1, 1) := by decide +kernel
theorem dX1_setUp_51 : decode cX1_setUp 51 = .ok (.getfield 65, 3) := by decide +kernel
theorem dX1_setUp_54 : decode cX1_setUp 54 = .ok (.iload 4, 2) := by decide +kernel
theorem dX1_setUp_56 : decode cX1_setUp 56 = .ok (.aaload, 1) := by decide +kernel
theorem dX1_setUp_57 : decode cX1_setUp 57 = .ok (.astore 5, 2) := by decide +kernel
theorem dX1_setUp_59 : decode cX1_setUp 59 = .ok (.aload_n 0, 1) := by decide +kernel
theorem dX1_setUp_60 : decode cX1_setUp 60 = .ok (.getfield 24, 3) := by decide +kernel
theorem dX1_setUp_63 : decode cX1_setUp 63 = .ok (.iload 4, 2) := by decide +kernel
theorem dX1_setUp_65 : decode cX1_setUp 65 = .ok (.aload 5, 2) := by decide +kernel
theorem dX1_setUp_67 : decode cX1_setUp 67 = .ok (.getfield 69, 3) := by decide +kernel
theorem dX1_setUp_70 : decode cX1_setUp 70 = .ok (.iastore, 1) := by decide +kernel
theorem dX1_setUp_71 : decode cX1_setUp 71 = .ok (.aload_n 0, 1) := by decide +kernel
theorem dX1_setUp_72 : decode cX1_setUp 72 = .ok (.getfield 27, 3) := by decide +kernel
theorem dX1_setUp_75 : decode cX1_setUp 75 = .ok (.iload 4, 2) := by decide +kernel
theorem dX1_setUp_77 : decode cX1_setUp 77 = .ok (.aload 5, 2) := by decide +kernel
theorem dX1_setUp_79 : decode cX1_setUp 79 = .ok (.getfield 73, 3) := by decide +kernel
theorem dX1_setUp_82 : decode cX1_setUp 82 = .ok (.iastore, 1) := by decide +kernel
theorem dX1_setUp_83 : decode cX1_setUp 83 = .ok (.aload_n 0, 1) := by decide +kernel
theorem dX1_setUp_84 : decode cX1_setUp 84 = .ok (.getfield 21, 3) := by decide +kernel
theorem dX1_setUp_87 : decode cX1_setUp 87 = .ok (.iload 4, 2) := by decide +kernel
theorem dX1_setUp_89 : decode cX1_setUp 89 = .ok (.aload 5, 2) := by decide +kernel
theorem dX1_setUp_91 : decode cX1_setUp 91 = .ok (.invokestatic 75, 3) := by decide +kernel
theorem dX1_setUp_94 : decode cX1_setUp 94 = .ok (.iastore, 1) := by decide +kernel
theorem dX1_setUp_95 : decode cX1_setUp 95 = .ok (.aload_n 0, 1) := by decide +kernel
theorem dX1_setUp_96 : decode cX1_setUp 96 = .ok (.getfield 39, 3) := by decide +kernel
theorem dX1_setUp_99 : decode cX1_setUp 99 = .ok (.iload 4, 2) := by decide +kernel
theorem dX1_setUp_101 : decode cX1_setUp 101 = .ok (.aload 5, 2) := by decide +kernel
theorem dX1_setUp_103 : decode cX1_setUp 103 = .ok (.getfield 79, 3) := by decide +kernel
theorem dX1_setUp_106 : decode cX1_setUp 106 = .ok (.iastore, 1) := by decide +kernel
theorem dX1_setUp_107 : decode cX1_setUp 107 = .ok (.aload_n 0, 1) := by decide +kernel
theorem dX1_setUp_108 : decode cX1_setUp 108 = .ok (.getfield 21, 3) := by decide +kernel
theorem dX1_setUp_111 : decode cX1_setUp 111 = .ok (.iload 4, 2) := by decide +kernel
theorem dX1_setUp_113 : decode cX1_setUp 113 = .ok (.iaload, 1) := by decide +kernel
theorem dX1_setUp_114 : decode cX1_setUp 114 = .ok (.iconst 1, 1) := by decide +kernel
theorem dX1_setUp_115 : decode cX1_setUp 115 = .ok (.if_icmp .eq 14, 3) := by decide +kernel
theorem dX1_setUp_118 : decode cX1_setUp 118 = .ok (.aload_n 0, 1) := by decide +kernel
theorem dX1_setUp_119 : decode cX1_setUp 119 = .ok (.getfield 21, 3) := by decide +kernel
theorem dX1_setUp_122 : decode cX1_setUp 122 = .ok (.iload 4, 2) := by decide +kernel
theorem dX1_setUp_124 : decode cX1_setUp 124 = .ok (.iaload, 1) := by decide +kernel
theorem dX1_setUp_125 : decode cX1_setUp 125 = .ok (.iconst 2, 1) := by decide +kernel
theorem dX1_setUp_126 : decode cX1_setUp 126 = .ok (.if_icmp .ne 20, 3) := by decide +kernel
theorem dX1_setUp_129 : decode cX1_setUp 129 = .ok (.aload_n 0, 1) := by decide +kernel
theorem dX1_setUp_130 : decode cX1_setUp 130 = .ok (.aload_n 1, 1) := by decide +kernel
theorem dX1_setUp_131 : decode cX1_setUp 131 = .ok (.iload 4, 2) := by decide +kernel
theorem dX1_setUp_133 : decode cX1_setUp 133 = .ok (.iload_n 2, 1) := by decide +kernel
theorem dX1_setUp_134 : decode cX1_setUp 134 = .ok (.iconst 3, 1) := by decide +kernel
theorem dX1_setUp_135 : decode cX1_setUp 135 = .ok (.idiv, 1) := by decide +kernel
theorem dX1_setUp_136 : decode cX1_setUp 136 = .ok (.iconst 1, 1) := by decide +kernel
theorem dX1_setUp_137 : decode cX1_setUp 137 = .ok (.isub, 1) := by decide +kernel
theorem dX1_setUp_138 : decode cX1_setUp 138 = .ok (.iload_n 2, 1) := by decide +kernel
theorem dX1_setUp_139 : decode cX1_setUp 139 = .ok (.iconst 3, 1) := by decide +kernel
theorem dX1_setUp_140 : decode cX1_setUp 140 = .ok (.irem, 1) := by decide +kernel
theorem dX1_setUp_141 : decode cX1_setUp 141 = .ok (.iconst 1, 1) := by decide +kernel
theorem dX1_setUp_142 : decode cX1_setUp 142 = .ok (.isub, 1) := by decide +kernel
theorem dX1_setUp_143 : decode cX1_setUp 143 = .ok (.invokevirtual 82, 3) := by decide +kernel
theorem dX1_setUp_146 : decode cX1_setUp 146 = .ok (.aload 5, 2) := by decide +kernel
theorem dX1_setUp_148 : decode cX1_setUp 148 = .ok (.getfield 86, 3) := by decide +kernel
theorem dX1_setUp_151 : decode cX1_setUp 151 = .ok (.iconst 4, 1) := by decide +kernel
theorem dX1_setUp_152 : decode cX1_setUp 152 = .ok (.if_icmp .ne 47, 3) := by decide +kernel
theorem dX1_setUp_155 : decode cX1_setUp 155 = .ok (.aload 5, 2) := by decide +kernel
theorem dX1_setUp_157 : decode cX1_setUp 157 = .ok (.getfield 89, 3) := by decide +kernel
theorem dX1_setUp_160 : decode cX1_setUp 160 = .ok (.ifCond .ne 39, 3) := by decide +kernel
theorem dX1_setUp_163 : decode cX1_setUp 163 = .ok (.aload_n 0, 1) := by decide +kernel
theorem dX1_setUp_164 : decode cX1_setUp 164 = .ok (.getfield 18, 3) := by decide +kernel
theorem dX1_setUp_167 : decode cX1_setUp 167 = .ok (.aload 5, 2) := by decide +kernel
theorem dX1_setUp_169 : decode cX1_setUp 169 = .ok (.getfield 69, 3) := by decide +kernel
theorem dX1_setUp_172 : decode cX1_setUp 172 = .ok (.dup2, 1) := by decide +kernel
theorem dX1_setUp_173 : decode cX1_setUp 173 = .ok (.iaload, 1) := by decide +kernel
theorem dX1_setUp_174 : decode cX1_setUp 174 = .ok (.aload 5, 2) := by decide +kernel
theorem dX1_setUp_176 : decode cX1_setUp 176 = .ok (.getfield 79, 3) := by decide +kernel
theorem dX1_setUp_179 : decode cX1_setUp 179 = .ok (.iadd, 1) := by decide +kernel
theorem dX1_setUp_180 : decode cX1_setUp 180 = .ok (.iastore, 1) := by decide +kernel
theorem dX1_setUp_181 : decode cX1_setUp 181 = .ok (.aload_n 0, 1) := by decide +kernel
theorem dX1_setUp_182 : decode cX1_setUp 182 = .ok (.getfield 18, 3) := by decide +kernel
theorem dX1_setUp_185 : decode cX1_setUp 185 = .ok (.aload 5, 2) := by decide +kernel
theorem dX1_setUp_187 : decode cX1_setUp 187 = .ok (.getfield 73, 3) := by decide +kernel
theorem dX1_setUp_190 : decode cX1_setUp 190 = .ok (.dup2, 1) := by decide +kernel
theorem dX1_setUp_191 : decode cX1_setUp 191 = .ok (.iaload, 1) := by decide +kernel
theorem dX1_setUp_192 : decode cX1_setUp 192 = .ok (.aload 5, 2) := by decide +kernel
theorem dX1_setUp_194 : decode cX1_setUp 194 = .ok (.getfield 79, 3) := by decide +kernel
theorem dX1_setUp_197 : decode cX1_setUp 197 = .ok (.iadd, 1) := by decide +kernel
theorem dX1_setUp_198 : decode cX1_setUp 198 = .ok (.iastore, 1) := by decide +kernel
theorem dX1_setUp_199 : decode cX1_setUp 199 = .ok (.iinc 4 1, 3) := by decide +kernel
theorem dX1_setUp_202 : decode cX1_setUp 202 = .ok (.goto (-161), 3) := by decide +kernel
theorem dX1_setUp_205 : decode cX1_setUp 205 = .ok (.return_, 1) := by decide +kernel
theorem dX1_setUpLaw_0 : decode cX1_setUpLaw 0 = .ok (.aload_n 1, 1) := by decide +kernel
theorem dX1_setUpLaw_1 : decode cX1_setUpLaw 1 = .ok (.getfield 65, 3) := by decide +kernel
theorem dX1_setUpLaw_4 : decode cX1_setUpLaw 4 = .ok (.iload_n 2, 1) := by decide +kernel
theorem dX1_setUpLaw_5 : decode cX1_setUpLaw 5 = .ok (.aaload, 1) := by decide +kernel
theorem dX1_setUpLaw_6 : decode cX1_setUpLaw 6 = .ok (.astore 5, 2) := by decide +kernel
theorem dX1_setUpLaw_8 : decode cX1_setUpLaw 8 = .ok (.aload 5, 2) := by decide +kernel
theorem dX1_setUpLaw_10 : decode cX1_setUpLaw 10 = .ok (.getfield 86, 3) := by decide +kernel
theorem dX1_setUpLaw_13 : decode cX1_setUpLaw 13 = .ok (.iconst 3, 1) := by decide +kernel
theorem dX1_setUpLaw_14 : decode cX1_setUpLaw 14 = .ok (.if_icmp .ne 31, 3) := by decide +kernel
theorem dX1_setUpLaw_17 : decode cX1_setUpLaw 17 = .ok (.aload_n 1, 1) := by decide +kernel
theorem dX1_setUpLaw_18 : decode cX1_setUpLaw 18 = .ok (.aload 5, 2) := by decide +kernel
theorem dX1_setUpLaw_20 : decode cX1_setUpLaw 20 = .ok (.getfield 92, 3) := by decide +kernel
theorem dX1_setUpLaw_23 : decode cX1_setUpLaw 23 = .ok (.invokevirtual 95, 3) := by decide +kernel
theorem dX1_setUpLaw_26 : decode cX1_setUpLaw 26 = .ok (.ifCond .eq 19, 3) := by decide +kernel
theorem dX1_setUpLaw_29 : decode cX1_setUpLaw 29 = .ok (.aload_n 1, 1) := by decide +kernel
theorem dX1_setUpLaw_30 : decode cX1_setUpLaw 30 = .ok (.getfield 65, 3) := by decide +kernel
theorem dX1_setUpLaw_33 : decode cX1_setUpLaw 33 = .ok (.aload 5, 2) := by decide +kernel
theorem dX1_setUpLaw_35 : decode cX1_setUpLaw 35 = .ok (.getfield 92, 3) := by decide +kernel
theorem dX1_setUpLaw_38 : decode cX1_setUpLaw 38 = .ok (.aaload, 1) := by decide +kernel
theorem dX1_setUpLaw_39 : decode cX1_setUpLaw 39 = .ok (.getfield 79, 3) := by decide +kernel
theorem dX1_setUpLaw_42 : decode cX1_setUpLaw 42 = .ok (.goto 8, 3) := by decide +kernel
theorem dX1_setUpLaw_45 : decode cX1_setUpLaw 45 = .ok (.aload 5, 2) := by decide +kernel
theorem dX1_setUpLaw_47 : decode cX1_setUpLaw 47 = .ok (.getfield 79, 3) := by decide +kernel
theorem dX1_setUpLaw_50 : decode cX1_setUpLaw 50 = .ok (.istore 6, 2) := by decide +kernel
theorem dX1_setUpLaw_52 : decode cX1_setUpLaw 52 = .ok (.aload_n 0, 1) := by decide +kernel
theorem dX1_setUpLaw_53 : decode cX1_setUpLaw 53 = .ok (.getfield 33, 3) := by decide +kernel
theorem dX1_setUpLaw_56 : decode cX1_setUpLaw 56 = .ok (.iload_n 2, 1) := by decide +kernel
theorem dX1_setUpLaw_57 : decode cX1_setUpLaw 57 = .ok (.aload 5, 2) := by decide +kernel
theorem dX1_setUpLaw_59 : decode cX1_setUpLaw 59 = .ok (.getfield 99, 3) := by decide +kernel
theorem dX1_setUpLaw_62 : decode cX1_setUpLaw 62 = .ok (.bipush 21, 2) := by decide +kernel
theorem dX1_setUpLaw_64 : decode cX1_setUpLaw 64 = .ok (.imul, 1) := by decide +kernel
theorem dX1_setUpLaw_65 : decode cX1_setUpLaw 65 = .ok (.iastore, 1) := by decide +kernel
theorem dX1_setUpLaw_66 : decode cX1_setUpLaw 66 = .ok (.aload_n 0, 1) := by decide +kernel
theorem dX1_setUpLaw_67 : decode cX1_setUpLaw 67 = .ok (.getfield 36, 3) := by decide +kernel
theorem dX1_setUpLaw_70 : decode cX1_setUpLaw 70 = .ok (.iload_n 2, 1) := by decide +kernel
theorem dX1_setUpLaw_71 : decode cX1_setUpLaw 71 = .ok (.aload 5, 2) := by decide +kernel
theorem dX1_setUpLaw_73 : decode cX1_setUpLaw 73 = .ok (.getfield 102, 3) := by decide +kernel
theorem dX1_setUpLaw_76 : decode cX1_setUpLaw 76 = .ok (.iload_n 3, 1) := by decide +kernel
theorem dX1_setUpLaw_77 : decode cX1_setUpLaw 77 = .ok (.imul, 1) := by decide +kernel
theorem dX1_setUpLaw_78 : decode cX1_setUpLaw 78 = .ok (.iastore, 1) := by decide +kernel
theorem dX1_setUpLaw_79 : decode cX1_setUpLaw 79 = .ok (.aload_n 0, 1) := by decide +kernel
theorem dX1_setUpLaw_80 : decode cX1_setUpLaw 80 = .ok (.getfield 39, 3) := by decide +kernel
theorem dX1_setUpLaw_83 : decode cX1_setUpLaw 83 = .ok (.iload_n 2, 1) := by decide +kernel
theorem dX1_setUpLaw_84 : decode cX1_setUpLaw 84 = .ok (.iload 6, 2) := by decide +kernel
theorem dX1_setUpLaw_86 : decode cX1_setUpLaw 86 = .ok (.bipush 10, 2) := by decide +kernel
theorem dX1_setUpLaw_88 : decode cX1_setUpLaw 88 = .ok (.aload 5, 2) := by decide +kernel
theorem dX1_setUpLaw_90 : decode cX1_setUpLaw 90 = .ok (.getfield 105, 3) := by decide +kernel
theorem dX1_setUpLaw_93 : decode cX1_setUpLaw 93 = .ok (.iconst 5, 1) := by decide +kernel
theorem dX1_setUpLaw_94 : decode cX1_setUpLaw 94 = .ok (.isub, 1) := by decide +kernel
theorem dX1_setUpLaw_95 : decode cX1_setUpLaw 95 = .ok (.iload 4, 2) := by decide +kernel
theorem dX1_setUpLaw_97 : decode cX1_setUpLaw 97 = .ok (.imul, 1) := by decide +kernel
theorem dX1_setUpLaw_98 : decode cX1_setUpLaw 98 = .ok (.iadd, 1) := by decide +kernel
theorem dX1_setUpLaw_99 : decode cX1_setUpLaw 99 = .ok (.imul, 1) := by decide +kernel
theorem dX1_setUpLaw_100 : decode cX1_setUpLaw 100 = .ok (.iastore, 1) := by decide +kernel
theorem dX1_setUpLaw_101 : decode cX1_setUpLaw 101 = .ok (.aload_n 0, 1) := by decide +kernel
theorem dX1_setUpLaw_102 : decode cX1_setUpLaw 102 = .ok (.getfield 30, 3) := by decide +kernel
theorem dX1_setUpLaw_105 : decode cX1_setUpLaw 105 = .ok (.iload_n 2, 1) := by decide +kernel
theorem dX1_setUpLaw_106 : decode cX1_setUpLaw 106 = .ok (.aload_n 0, 1) := by decide +kernel
theorem dX1_setUpLaw_107 : decode cX1_setUpLaw 107 = .ok (.getfield 21, 3) := by decide +kernel
theorem dX1_setUpLaw_110 : decode cX1_setUpLaw 110 = .ok (.iload_n 2, 1) := by decide +kernel
theorem dX1_setUpLaw_111 : decode cX1_setUpLaw 111 = .ok (.iaload, 1) := by decide +kernel
theorem dX1_setUpLaw_112 : decode cX1_setUpLaw 112 = .ok (.iconst 2, 1) := by decide +kernel
theorem dX1_setUpLaw_113 : decode cX1_setUpLaw 113 = .ok (.if_icmp .ne 11, 3) := by decide +kernel
theorem dX1_setUpLaw_116 : decode cX1_setUpLaw 116 = .ok (.aload 5, 2) := by decide +kernel
theorem dX1_setUpLaw_118 : decode cX1_setUpLaw 118 = .ok (.getfield 108, 3) := by decide +kernel
theorem dX1_setUpLaw_121 : decode cX1_setUpLaw 121 = .ok (.goto 4, 3) := by decide +kernel
theorem dX1_setUpLaw_124 : decode cX1_setUpLaw 124 = .ok (.iconst 0, 1) := by decide +kernel
theorem dX1_setUpLaw_125 : decode cX1_setUpLaw 125 = .ok (.iastore, 1) := by decide +kernel
theorem dX1_setUpLaw_126 : decode cX1_setUpLaw 126 = .ok (.return_, 1) := by decide +kernel
theorem dX1_modeOf_0 : decode cX1_modeOf 0 = .ok (.aload_n 0, 1) := by decide +kernel
theorem dX1_modeOf_1 : decode cX1_modeOf 1 = .ok (.getfield 86, 3) := by decide +kernel
theorem dX1_modeOf_4 : decode cX1_modeOf 4 = .ok (.iconst 4, 1) := by decide +kernel
theorem dX1_modeOf_5 : decode cX1_modeOf 5 = .ok (.if_icmp .eq 11, 3) := by decide +kernel
theorem dX1_modeOf_8 : decode cX1_modeOf 8 = .ok (.aload_n 0, 1) := by decide +kernel
theorem dX1_modeOf_9 : decode cX1_modeOf 9 = .ok (.getfield 89, 3) := by decide +kernel
theorem dX1_modeOf_12 : decode cX1_modeOf 12 = .ok (.iconst 1, 1) := by decide +kernel
theorem dX1_modeOf_13 : decode cX1_modeOf 13 = .ok (.if_icmp .ne 5, 3) := by decide +kernel
theorem dX1_modeOf_16 : decode cX1_modeOf 16 = .ok (.iconst 0, 1) := by decide +kernel
theorem dX1_modeOf_17 : decode cX1_modeOf 17 = .ok (.ireturn, 1) := by decide +kernel
theorem dX1_modeOf_18 : decode cX1_modeOf 18 = .ok (.aload_n 0, 1) := by decide +kernel
theorem dX1_modeOf_19 : decode cX1_modeOf 19 = .ok (.getfield 89, 3) := by decide +kernel
theorem dX1_modeOf_22 : decode cX1_modeOf 22 = .ok (.iconst 2, 1) := by decide +kernel
theorem dX1_modeOf_23 : decode cX1_modeOf 23 = .ok (.if_icmp .ne 5, 3) := by decide +kernel
theorem dX1_modeOf_26 : decode cX1_modeOf 26 = .ok (.iconst 4, 1) := by decide +kernel
theorem dX1_modeOf_27 : decode cX1_modeOf 27 = .ok (.ireturn, 1) := by decide +kernel
theorem dX1_modeOf_28 : decode cX1_modeOf 28 = .ok (.aload_n 0, 1) := by decide +kernel
theorem dX1_modeOf_29 : decode cX1_modeOf 29 = .ok (.getfield 86, 3) := by decide +kernel
theorem dX1_modeOf_32 : decode cX1_modeOf 32 = .ok (.iconst 5, 1) := by decide +kernel
theorem dX1_modeOf_33 : decode cX1_modeOf 33 = .ok (.if_icmp .ne 5, 3) := by decide +kernel
theorem dX1_modeOf_36 : decode cX1_modeOf 36 = .ok (.iconst 3, 1) := by decide +kernel
theorem dX1_modeOf_37 : decode cX1_modeOf 37 = .ok (.ireturn, 1) := by decide +kernel
theorem dX1_modeOf_38 : decode cX1_modeOf 38 = .ok (.aload_n 0, 1) := by decide +kernel
theorem dX1_modeOf_39 : decode cX1_modeOf 39 = .ok (.getfield 86, 3) := by decide +kernel
theorem dX1_modeOf_42 : decode cX1_modeOf 42 = .ok (.iconst 1, 1) := by decide +kernel
theorem dX1_modeOf_43 : decode cX1_modeOf 43 = .ok (.if_icmp .ne 7, 3) := by decide +kernel
theorem dX1_modeOf_46 : decode cX1_modeOf 46 = .ok (.iconst 1, 1) := by decide +kernel
theorem dX1_modeOf_47 : decode cX1_modeOf 47 = .ok (.goto 4, 3) := by decide +kernel
theorem dX1_modeOf_50 : decode cX1_modeOf 50 = .ok (.iconst 2, 1) := by decide +kernel
theorem dX1_modeOf_51 : decode cX1_modeOf 51 = .ok (.ireturn, 1) := by decide +kernel
theorem dX1_place_0 : decode cX1_place 0 = .ok (.aload_n 0, 1) := by decide +kernel
theorem dX1_place_1 : decode cX1_place 1 = .ok (.getfield 9, 3) := by decide +kernel
theorem dX1_place_4 : decode cX1_place 4 = .ok (.iconst 2, 1) := by decide +kernel
theorem dX1_place_5 : decode cX1_place 5 = .ok (.iload_n 1, 1) := by decide +kernel
theorem dX1_place_6 : decode cX1_place 6 = .ok (.sipush 441, 3) := by decide +kernel
theorem dX1_place_9 : decode cX1_place 9 = .ok (.idiv, 1) := by decide +kernel
theorem dX1_place_10 : decode cX1_place 10 = .ok (.iastore, 1) := by decide +kernel
theorem dX1_place_11 : decode cX1_place 11 = .ok (.aload_n 0, 1) := by decide +kernel
theorem dX1_place_12 : decode cX1_place 12 = .ok (.getfield 9, 3) := by decide +kernel
theorem dX1_place_15 : decode cX1_place 15 = .ok (.iconst 3, 1) := by decide +kernel
theorem dX1_place_16 : decode cX1_place 16 = .ok (.iload_n 1, 1) := by decide +kernel
theorem dX1_place_17 : decode cX1_place 17 = .ok (.bipush 21, 2) := by decide +kernel
theorem dX1_place_19 : decode cX1_place 19 = .ok (.idiv, 1) := by decide +kernel
theorem dX1_place_20 : decode cX1_place 20 = .ok (.bipush 21, 2) := by decide +kernel
theorem dX1_place_22 : decode cX1_place 22 = .ok (.irem, 1) := by decide +kernel
theorem dX1_place_23 : decode cX1_place 23 = .ok (.iastore, 1) := by decide +kernel
theorem dX1_place_24 : decode cX1_place 24 = .ok (.aload_n 0, 1) := by decide +kernel
theorem dX1_place_25 : decode cX1_place 25 = .ok (.getfield 9, 3) := by decide +kernel
theorem dX1_place_28 : decode cX1_place 28 = .ok (.iconst 4, 1) := by decide +kernel
theorem dX1_place_29 : decode cX1_place 29 = .ok (.iload_n 1, 1) := by decide +kernel
theorem dX1_place_30 : decode cX1_place 30 = .ok (.bipush 21, 2) := by decide +kernel
theorem dX1_place_32 : decode cX1_place 32 = .ok (.irem, 1) := by decide +kernel
theorem dX1_place_33 : decode cX1_place 33 = .ok (.iastore, 1) := by decide +kernel
theorem dX1_place_34 : decode cX1_place 34 = .ok (.return_, 1) := by decide +kernel
theorem dX1_stateNow_0 : decode cX1_stateNow 0 = .ok (.aload_n 0, 1) := by decide +kernel
theorem dX1_stateNow_1 : decode cX1_stateNow 1 = .ok (.getfield 9, 3) := by decide +kernel
theorem dX1_stateNow_4 : decode cX1_stateNow 4 = .ok (.iconst 2, 1) := by decide +kernel
theorem dX1_stateNow_5 : decode cX1_stateNow 5 = .ok (.iaload, 1) := by decide +kernel
theorem dX1_stateNow_6 : decode cX1_stateNow 6 = .ok (.bipush 21, 2) := by decide +kernel
theorem dX1_stateNow_8 : decode cX1_stateNow 8 = .ok (.imul, 1) := by decide +kernel
theorem dX1_stateNow_9 : decode cX1_stateNow 9 = .ok (.aload_n 0, 1) := by decide +kernel
theorem dX1_stateNow_10 : decode cX1_stateNow 10 = .ok (.getfield 9, 3) := by decide +kernel
theorem dX1_stateNow_13 : decode cX1_stateNow 13 = .ok (.iconst 3, 1) := by decide +kernel
theorem dX1_stateNow_14 : decode cX1_stateNow 14 = .ok (.iaload, 1) := by decide +kernel
theorem dX1_stateNow_15 : decode cX1_stateNow 15 = .ok (.iadd, 1) := by decide +kernel
theorem dX1_stateNow_16 : decode cX1_stateNow 16 = .ok (.bipush 21, 2) := by decide +kernel
theorem dX1_stateNow_18 : decode cX1_stateNow 18 = .ok (.imul, 1) := by decide +kernel
theorem dX1_stateNow_19 : decode cX1_stateNow 19 = .ok (.aload_n 0, 1) := by decide +kernel
theorem dX1_stateNow_20 : decode cX1_stateNow 20 = .ok (.getfield 9, 3) := by decide +kernel
theorem dX1_stateNow_23 : decode cX1_stateNow 23 = .ok (.iconst 4, 1) := by decide +kernel
theorem dX1_stateNow_24 : decode cX1_stateNow 24 = .ok (.iaload, 1) := by decide +kernel
theorem dX1_stateNow_25 : decode cX1_stateNow 25 = .ok (.iadd, 1) := by decide +kernel
theorem dX1_stateNow_26 : decode cX1_stateNow 26 = .ok (.ireturn, 1) := by decide +kernel
theorem dX1_through_0 : decode cX1_through 0 = .ok (.aload_n 0, 1) := by decide +kernel
theorem dX1_through_1 : decode cX1_through 1 = .ok (.getfield 9, 3) := by decide +kernel
theorem dX1_through_4 : decode cX1_through 4 = .ok (.aload_n 0, 1) := by decide +kernel
theorem dX1_through_5 : decode cX1_through 5 = .ok (.getfield 24, 3) := by decide +kernel
theorem dX1_through_8 : decode cX1_through 8 = .ok (.iload_n 1, 1) := by decide +kernel
theorem dX1_through_9 : decode cX1_through 9 = .ok (.iaload, 1) := by decide +kernel
theorem dX1_through_10 : decode cX1_through 10 = .ok (.iaload, 1) := by decide +kernel
theorem dX1_through_11 : decode cX1_through 11 = .ok (.aload_n 0, 1) := by decide +kernel
theorem dX1_through_12 : decode cX1_through 12 = .ok (.getfield 9, 3) := by decide +kernel
theorem dX1_through_15 : decode cX1_through 15 = .ok (.aload_n 0, 1) := by decide +kernel
theorem dX1_through_16 : decode cX1_through 16 = .ok (.getfield 27, 3) := by decide +kernel
theorem dX1_through_19 : decode cX1_through 19 = .ok (.iload_n 1, 1) := by decide +kernel
theorem dX1_through_20 : decode cX1_through 20 = .ok (.iaload, 1) := by decide +kernel
theorem dX1_through_21 : decode cX1_through 21 = .ok (.iaload, 1) := by decide +kernel
theorem dX1_through_22 : decode cX1_through 22 = .ok (.isub, 1) := by decide +kernel
theorem dX1_through_23 : decode cX1_through 23 = .ok (.istore_n 2, 1) := by decide +kernel
theorem dX1_through_24 : decode cX1_through 24 = .ok (.aload_n 0, 1) := by decide +kernel
theorem dX1_through_25 : decode cX1_through 25 = .ok (.getfield 21, 3) := by decide +kernel
theorem dX1_through_28 : decode cX1_through 28 = .ok (.iload_n 1, 1) := by decide +kernel
theorem dX1_through_29 : decode cX1_through 29 = .ok (.iaload, 1) := by decide +kernel
theorem dX1_through_30 : decode cX1_through 30 = .ok (.iconst 3, 1) := by decide +kernel
theorem dX1_through_31 : decode cX1_through 31 = .ok (.if_icmp .ne 10, 3) := by decide +kernel
theorem dX1_through_34 : decode cX1_through 34 = .ok (.aload_n 0, 1) := by decide +kernel
theorem dX1_through_35 : decode cX1_through 35 = .ok (.getfield 39, 3) := by decide +kernel
theorem dX1_through_38 : decode cX1_through 38 = .ok (.iload_n 1, 1) := by decide +kernel
theorem dX1_through_39 : decode cX1_through 39 = .ok (.iaload, 1) := by decide +kernel
theorem dX1_through_40 : decode cX1_through 40 = .ok (.ireturn, 1) := by decide +kernel
theorem dX1_through_41 : decode cX1_through 41 = .ok (.aload_n 0, 1) := by decide +kernel
theorem dX1_through_42 : decode cX1_through 42 = .ok (.getfield 21, 3) := by decide +kernel
theorem dX1_through_45 : decode cX1_through 45 = .ok (.iload_n 1, 1) := by decide +kernel
theorem dX1_through_46 : decode cX1_through 46 = .ok (.iaload, 1) := by decide +kernel
theorem dX1_through_47 : decode cX1_through 47 = .ok (.iconst 4, 1) := by decide +kernel
theorem dX1_through_48 : decode cX1_through 48 = .ok (.if_icmp .ne 8, 3) := by decide +kernel
theorem dX1_through_51 : decode cX1_through 51 = .ok (.bipush 40, 2) := by decide +kernel
theorem dX1_through_53 : decode cX1_through 53 = .ok (.iload_n 2, 1) := by decide +kernel
theorem dX1_through_54 : decode cX1_through 54 = .ok (.imul, 1) := by decide +kernel
theorem dX1_through_55 : decode cX1_through 55 = .ok (.ireturn, 1) := by decide +kernel
theorem dX1_through_56 : decode cX1_through 56 = .ok (.aload_n 0, 1) := by decide +kernel
theorem dX1_through_57 : decode cX1_through 57 = .ok (.getfield 21, 3) := by decide +kernel
theorem dX1_through_60 : decode cX1_through 60 = .ok (.iload_n 1, 1) := by decide +kernel
theorem dX1_through_61 : decode cX1_through 61 = .ok (.iaload, 1) := by decide +kernel
theorem dX1_through_62 : decode cX1_through 62 = .ok (.ifCond .eq 7, 3) := by decide +kernel
theorem dX1_through_65 : decode cX1_through 65 = .ok (.iload_n 2, 1) := by decide +kernel
theorem dX1_through_66 : decode cX1_through 66 = .ok (.ifCond .ne 5, 3) := by decide +kernel
theorem dX1_through_69 : decode cX1_through 69 = .ok (.iconst 0, 1) := by decide +kernel
theorem dX1_through_70 : decode cX1_through 70 = .ok (.ireturn, 1) := by decide +kernel
theorem dX1_through_71 : decode cX1_through 71 = .ok (.aload_n 0, 1) := by decide +kernel
theorem dX1_through_72 : decode cX1_through 72 = .ok (.getfield 46, 3) := by decide +kernel
theorem dX1_through_75 : decode cX1_through 75 = .ok (.aload_n 0, 1) := by decide +kernel
theorem dX1_through_76 : decode cX1_through 76 = .ok (.getfield 33, 3) := by decide +kernel
theorem dX1_through_79 : decode cX1_through 79 = .ok (.iload_n 1, 1) := by decide +kernel
theorem dX1_through_80 : decode cX1_through 80 = .ok (.iaload, 1) := by decide +kernel
theorem dX1_through_81 : decode cX1_through 81 = .ok (.iload_n 2, 1) := by decide +kernel
theorem dX1_through_82 : decode cX1_through 82 = .ok (.ifCond .ge 8, 3) := by decide +kernel
theorem dX1_through_85 : decode cX1_through 85 = .ok (.iload_n 2, 1) := by decide +kernel
theorem dX1_through_86 : decode cX1_through 86 = .ok (.ineg, 1) := by decide +kernel
theorem dX1_through_87 : decode cX1_through 87 = .ok (.goto 4, 3) := by decide +kernel
theorem dX1_through_90 : decode cX1_through 90 = .ok (.iload_n 2, 1) := by decide +kernel
theorem dX1_through_91 : decode cX1_through 91 = .ok (.iadd, 1) := by decide +kernel
theorem dX1_through_92 : decode cX1_through 92 = .ok (.iaload, 1) := by decide +kernel
theorem dX1_through_93 : decode cX1_through 93 = .ok (.aload_n 0, 1) := by decide +kernel
theorem dX1_through_94 : decode cX1_through 94 = .ok (.getfield 36, 3) := by decide +kernel
theorem dX1_through_97 : decode cX1_through 97 = .ok (.iload_n 1, 1) := by decide +kernel
theorem dX1_through_98 : decode cX1_through 98 = .ok (.iaload, 1) := by decide +kernel
theorem dX1_through_99 : decode cX1_through 99 = .ok (.iadd, 1) := by decide +kernel
theorem dX1_through_100 : decode cX1_through 100 = .ok (.istore_n 3, 1) := by decide +kernel
theorem dX1_through_101 : decode cX1_through 101 = .ok (.iload_n 3, 1) := by decide +kernel
theorem dX1_through_102 : decode cX1_through 102 = .ok (.ifCond .gt 5, 3) := by decide +kernel
theorem dX1_through_105 : decode cX1_through 105 = .ok (.iconst 0, 1) := by decide +kernel
theorem dX1_through_106 : decode cX1_through 106 = .ok (.ireturn, 1) := by decide +kernel
theorem dX1_through_107 : decode cX1_through 107 = .ok (.iload_n 3, 1) := by decide +kernel
theorem dX1_through_108 : decode cX1_through 108 = .ok (.aload_n 0, 1) := by decide +kernel
theorem dX1_through_109 : decode cX1_through 109 = .ok (.getfield 39, 3) := by decide +kernel
theorem dX1_through_112 : decode cX1_through 112 = .ok (.iload_n 1, 1) := by decide +kernel
theorem dX1_through_113 : decode cX1_through 113 = .ok (.iaload, 1) := by decide +kernel
theorem dX1_through_114 : decode cX1_through 114 = .ok (.imul, 1) := by decide +kernel
theorem dX1_through_115 : decode cX1_through 115 = .ok (.bipush 10, 2) := by decide +kernel
theorem dX1_through_117 : decode cX1_through 117 = .ok (.idiv, 1) := by decide +kernel
theorem dX1_through_118 : decode cX1_through 118 = .ok (.istore 4, 2) := by decide +kernel
theorem dX1_through_120 : decode cX1_through 120 = .ok (.iload_n 2, 1) := by decide +kernel
theorem dX1_through_121 : decode cX1_through 121 = .ok (.ifCond .ge 8, 3) := by decide +kernel
theorem dX1_through_124 : decode cX1_through 124 = .ok (.iload 4, 2) := by decide +kernel
theorem dX1_through_126 : decode cX1_through 126 = .ok (.ineg, 1) := by decide +kernel
theorem dX1_through_127 : decode cX1_through 127 = .ok (.istore 4, 2) := by decide +kernel
theorem dX1_through_129 : decode cX1_through 129 = .ok (.aload_n 0, 1) := by decide +kernel
theorem dX1_through_130 : decode cX1_through 130 = .ok (.getfield 21, 3) := by decide +kernel
theorem dX1_through_133 : decode cX1_through 133 = .ok (.iload_n 1, 1) := by decide +kernel
theorem dX1_through_134 : decode cX1_through 134 = .ok (.iaload, 1) := by decide +kernel
theorem dX1_through_135 : decode cX1_through 135 = .ok (.iconst 2, 1) := by decide +kernel
theorem dX1_through_136 : decode cX1_through 136 = .ok (.if_icmp .ne 17, 3) := by decide +kernel
theorem dX1_through_139 : decode cX1_through 139 = .ok (.aload_n 0, 1) := by decide +kernel
theorem dX1_through_140 : decode cX1_through 140 = .ok (.getfield 9, 3) := by decide +kernel
theorem dX1_through_143 : decode cX1_through 143 = .ok (.aload_n 0, 1) := by decide +kernel
theorem dX1_through_144 : decode cX1_through 144 = .ok (.getfield 30, 3) := by decide +kernel
theorem dX1_through_147 : decode cX1_through 147 = .ok (.iload_n 1, 1) := by decide +kernel
theorem dX1_through_148 : decode cX1_through 148 = .ok (.iaload, 1) := by decide +kernel
theorem dX1_through_149 : decode cX1_through 149 = .ok (.iaload, 1) := by decide +kernel
theorem dX1_through_150 : decode cX1_through 150 = .ok (.goto 5, 3) := by decide +kernel
theorem dX1_through_153 : decode cX1_through 153 = .ok (.bipush 10, 2) := by decide +kernel
theorem dX1_through_155 : decode cX1_through 155 = .ok (.istore 5, 2) := by decide +kernel
theorem dX1_through_157 : decode cX1_through 157 = .ok (.iload 5, 2) := by decide +kernel
theorem dX1_through_159 : decode cX1_through 159 = .ok (.bipush 10, 2) := by decide +kernel
theorem dX1_through_161 : decode cX1_through 161 = .ok (.if_icmp .ge 14, 3) := by decide +kernel
theorem dX1_through_164 : decode cX1_through 164 = .ok (.iload 4, 2) := by decide +kernel
theorem dX1_through_166 : decode cX1_through 166 = .ok (.iload 5, 2) := by decide +kernel
theorem dX1_through_168 : decode cX1_through 168 = .ok (.imul, 1) := by decide +kernel
theorem dX1_through_169 : decode cX1_through 169 = .ok (.bipush 10, 2) := by decide +kernel
theorem dX1_through_171 : decode cX1_through 171 = .ok (.idiv, 1) := by decide +kernel
theorem dX1_through_172 : decode cX1_through 172 = .ok (.goto 5, 3) := by decide +kernel
theorem dX1_through_175 : decode cX1_through 175 = .ok (.iload 4, 2) := by decide +kernel
theorem dX1_through_177 : decode cX1_through 177 = .ok (.ireturn, 1) := by decide +kernel
theorem dX1_move_0 : decode cX1_move 0 = .ok (.aload_n 0, 1) := by decide +kernel
theorem dX1_move_1 : decode cX1_move 1 = .ok (.getfield 15, 3) := by decide +kernel
theorem dX1_move_4 : decode cX1_move 4 = .ok (.iconst 0, 1) := by decide +kernel
theorem dX1_move_5 : decode cX1_move 5 = .ok (.invokestatic 59, 3) := by decide +kernel
theorem dX1_move_8 : decode cX1_move 8 = .ok (.iconst 0, 1) := by decide +kernel
theorem dX1_move_9 : decode cX1_move 9 = .ok (.istore_n 1, 1) := by decide +kernel
theorem dX1_move_10 : decode cX1_move 10 = .ok (.iload_n 1, 1) := by decide +kernel
theorem dX1_move_11 : decode cX1_move 11 = .ok (.aload_n 0, 1) := by decide +kernel
theorem dX1_move_12 : decode cX1_move 12 = .ok (.getfield 55, 3) := by decide +kernel
theorem dX1_move_15 : decode cX1_move 15 = .ok (.if_icmp .ge 57, 3) := by decide +kernel
theorem dX1_move_18 : decode cX1_move 18 = .ok (.aload_n 0, 1) := by decide +kernel
theorem dX1_move_19 : decode cX1_move 19 = .ok (.getfield 21, 3) := by decide +kernel
theorem dX1_move_22 : decode cX1_move 22 = .ok (.iload_n 1, 1) := by decide +kernel
theorem dX1_move_23 : decode cX1_move 23 = .ok (.iaload, 1) := by decide +kernel
theorem dX1_move_24 : decode cX1_move 24 = .ok (.ifCond .ne 6, 3) := by decide +kernel
theorem dX1_move_27 : decode cX1_move 27 = .ok (.goto 39, 3) := by decide +kernel
theorem dX1_move_30 : decode cX1_move 30 = .ok (.aload_n 0, 1) := by decide +kernel
theorem dX1_move_31 : decode cX1_move 31 = .ok (.iload_n 1, 1) := by decide +kernel
theorem dX1_move_32 : decode cX1_move 32 = .ok (.invokevirtual 110, 3) := by decide +kernel
theorem dX1_move_35 : decode cX1_move 35 = .ok (.istore_n 2, 1) := by decide +kernel
theorem dX1_move_36 : decode cX1_move 36 = .ok (.aload_n 0, 1) := by decide +kernel
theorem dX1_move_37 : decode cX1_move 37 = .ok (.getfield 15, 3) := by decide +kernel
theorem dX1_move_40 : decode cX1_move 40 = .ok (.aload_n 0, 1) := by decide +kernel
theorem dX1_move_41 : decode cX1_move 41 = .ok (.getfield 24, 3) := by decide +kernel
theorem dX1_move_44 : decode cX1_move 44 = .ok (.iload_n 1, 1) := by decide +kernel
theorem dX1_move_45 : decode cX1_move 45 = .ok (.iaload, 1) := by decide +kernel
theorem dX1_move_46 : decode cX1_move 46 = .ok (.dup2, 1) := by decide +kernel
theorem dX1_move_47 : decode cX1_move 47 = .ok (.iaload, 1) := by decide +kernel
theorem dX1_move_48 : decode cX1_move 48 = .ok (.iload_n 2, 1) := by decide +kernel
theorem dX1_move_49 : decode cX1_move 49 = .ok (.isub, 1) := by decide +kernel
theorem dX1_move_50 : decode cX1_move 50 = .ok (.iastore, 1) := by decide +kernel
theorem dX1_move_51 : decode cX1_move 51 = .ok (.aload_n 0, 1) := by decide +kernel
theorem dX1_move_52 : decode cX1_move 52 = .ok (.getfield 15, 3) := by decide +kernel
theorem dX1_move_55 : decode cX1_move 55 = .ok (.aload_n 0, 1) := by decide +kernel
theorem dX1_move_56 : decode cX1_move 56 = .ok (.getfield 27, 3) := by decide +kernel
theorem dX1_move_59 : decode cX1_move 59 = .ok (.iload_n 1, 1) := by decide +kernel
theorem dX1_move_60 : decode cX1_move 60 = .ok (.iaload, 1) := by decide +kernel
theorem dX1_move_61 : decode cX1_move 61 = .ok (.dup2, 1) := by decide +kernel
theorem dX1_move_62 : decode cX1_move 62 = .ok (.iaload, 1) := by decide +kernel
theorem dX1_move_63 : decode cX1_move 63 = .ok (.iload_n 2, 1) := by decide +kernel
theorem dX1_move_64 : decode cX1_move 64 = .ok (.iadd, 1) := by decide +kernel
theorem dX1_move_65 : decode cX1_move 65 = .ok (.iastore, 1) := by decide +kernel
theorem dX1_move_66 : decode cX1_move 66 = .ok (.iinc 1 1, 3) := by decide +kernel
theorem dX1_move_69 : decode cX1_move 69 = .ok (.goto (-59), 3) := by decide +kernel
theorem dX1_move_72 : decode cX1_move 72 = .ok (.iconst 2, 1) := by decide +kernel
theorem dX1_move_73 : decode cX1_move 73 = .ok (.istore_n 1, 1) := by decide +kernel
theorem dX1_move_74 : decode cX1_move 74 = .ok (.iload_n 1, 1) := by decide +kernel
theorem dX1_move_75 : decode cX1_move 75 = .ok (.iconst 4, 1) := by decide +kernel
theorem dX1_move_76 : decode cX1_move 76 = .ok (.if_icmp .gt 26, 3) := by decide +kernel
theorem dX1_move_79 : decode cX1_move 79 = .ok (.aload_n 0, 1) := by decide +kernel
theorem dX1_move_80 : decode cX1_move 80 = .ok (.getfield 9, 3) := by decide +kernel
theorem dX1_move_83 : decode cX1_move 83 = .ok (.iload_n 1, 1) := by decide +kernel
theorem dX1_move_84 : decode cX1_move 84 = .ok (.aload_n 0, 1) := by decide +kernel
theorem dX1_move_85 : decode cX1_move 85 = .ok (.iload_n 1, 1) := by decide +kernel
theorem dX1_move_86 : decode cX1_move 86 = .ok (.aload_n 0, 1) := by decide +kernel
theorem dX1_move_87 : decode cX1_move 87 = .ok (.getfield 15, 3) := by decide +kernel
theorem dX1_move_90 : decode cX1_move 90 = .ok (.iload_n 1, 1) := by decide +kernel
theorem dX1_move_91 : decode cX1_move 91 = .ok (.iaload, 1) := by decide +kernel
theorem dX1_move_92 : decode cX1_move 92 = .ok (.invokevirtual 114, 3) := by decide +kernel
theorem dX1_move_95 : decode cX1_move 95 = .ok (.iastore, 1) := by decide +kernel
theorem dX1_move_96 : decode cX1_move 96 = .ok (.iinc 1 1, 3) := by decide +kernel
theorem dX1_move_99 : decode cX1_move 99 = .ok (.goto (-25), 3) := by decide +kernel
theorem dX1_move_102 : decode cX1_move 102 = .ok (.return_, 1) := by decide +kernel
theorem dX1_moved_0 : decode cX1_moved 0 = .ok (.aload_n 0, 1) := by decide +kernel
theorem dX1_moved_1 : decode cX1_moved 1 = .ok (.getfield 18, 3) := by decide +kernel
theorem dX1_moved_4 : decode cX1_moved 4 = .ok (.iload_n 1, 1) := by decide +kernel
theorem dX1_moved_5 : decode cX1_moved 5 = .ok (.iaload, 1) := by decide +kernel
theorem dX1_moved_6 : decode cX1_moved 6 = .ok (.istore_n 3, 1) := by decide +kernel
theorem dX1_moved_7 : decode cX1_moved 7 = .ok (.aload_n 0, 1) := by decide +kernel
theorem dX1_moved_8 : decode cX1_moved 8 = .ok (.getfield 9, 3) := by decide +kernel
theorem dX1_moved_11 : decode cX1_moved 11 = .ok (.iload_n 1, 1) := by decide +kernel
theorem dX1_moved_12 : decode cX1_moved 12 = .ok (.iaload, 1) := by decide +kernel
theorem dX1_moved_13 : decode cX1_moved 13 = .ok (.iload_n 3, 1) := by decide +kernel
theorem dX1_moved_14 : decode cX1_moved 14 = .ok (.ifCond .le 9, 3) := by decide +kernel
theorem dX1_moved_17 : decode cX1_moved 17 = .ok (.iload_n 2, 1) := by decide +kernel
theorem dX1_moved_18 : decode cX1_moved 18 = .ok (.iload_n 3, 1) := by decide +kernel
theorem dX1_moved_19 : decode cX1_moved 19 = .ok (.idiv, 1) := by decide +kernel
theorem dX1_moved_20 : decode cX1_moved 20 = .ok (.goto 4, 3) := by decide +kernel
theorem dX1_moved_23 : decode cX1_moved 23 = .ok (.iconst 0, 1) := by decide +kernel
theorem dX1_moved_24 : decode cX1_moved 24 = .ok (.iadd, 1) := by decide +kernel
theorem dX1_moved_25 : decode cX1_moved 25 = .ok (.istore 4, 2) := by decide +kernel
theorem dX1_moved_27 : decode cX1_moved 27 = .ok (.iload 4, 2) := by decide +kernel
theorem dX1_moved_29 : decode cX1_moved 29 = .ok (.ifCond .ge 7, 3) := by decide +kernel
theorem dX1_moved_32 : decode cX1_moved 32 = .ok (.iconst 0, 1) := by decide +kernel
theorem dX1_moved_33 : decode cX1_moved 33 = .ok (.goto 17, 3) := by decide +kernel
theorem dX1_moved_36 : decode cX1_moved 36 = .ok (.iload 4, 2) := by decide +kernel
theorem dX1_moved_38 : decode cX1_moved 38 = .ok (.bipush 20, 2) := by decide +kernel
theorem dX1_moved_40 : decode cX1_moved 40 = .ok (.if_icmp .le 8, 3) := by decide +kernel
theorem dX1_moved_43 : decode cX1_moved 43 = .ok (.bipush 20, 2) := by decide +kernel
theorem dX1_moved_45 : decode cX1_moved 45 = .ok (.goto 5, 3) := by decide +kernel
theorem dX1_moved_48 : decode cX1_moved 48 = .ok (.iload 4, 2) := by decide +kernel
theorem dX1_moved_50 : decode cX1_moved 50 = .ok (.ireturn, 1) := by decide +kernel
theorem dX1_walk_0 : decode cX1_walk 0 = .ok (.aload_n 0, 1) := by decide +kernel
theorem dX1_walk_1 : decode cX1_walk 1 = .ok (.getfield 42, 3) := by decide +kernel
theorem dX1_walk_4 : decode cX1_walk 4 = .ok (.lconst 0, 1) := by decide +kernel
theorem dX1_walk_5 : decode cX1_walk 5 = .ok (.invokestatic 118, 3) := by decide +kernel
theorem dX1_walk_8 : decode cX1_walk 8 = .ok (.aload_n 0, 1) := by decide +kernel
theorem dX1_walk_9 : decode cX1_walk 9 = .ok (.iload_n 1, 1) := by decide +kernel
theorem dX1_walk_10 : decode cX1_walk 10 = .ok (.invokevirtual 121, 3) := by decide +kernel
theorem dX1_walk_13 : decode cX1_walk 13 = .ok (.iload_n 1, 1) := by decide +kernel
theorem dX1_walk_14 : decode cX1_walk 14 = .ok (.istore_n 2, 1) := by decide +kernel
theorem dX1_walk_15 : decode cX1_walk 15 = .ok (.iconst 0, 1) := by decide +kernel
theorem dX1_walk_16 : decode cX1_walk 16 = .ok (.istore_n 3, 1) := by decide +kernel
theorem dX1_walk_17 : decode cX1_walk 17 = .ok (.iload_n 3, 1) := by decide +kernel
theorem dX1_walk_18 : decode cX1_walk 18 = .ok (.sipush 9261, 3) := by decide +kernel
theorem dX1_walk_21 : decode cX1_walk 21 = .ok (.if_icmp .gt 132, 3) := by decide +kernel
theorem dX1_walk_24 : decode cX1_walk 24 = .ok (.aload_n 0, 1) := by decide +kernel
theorem dX1_walk_25 : decode cX1_walk 25 = .ok (.getfield 42, 3) := by decide +kernel
theorem dX1_walk_28 : decode cX1_walk 28 = .ok (.iload_n 2, 1) := by decide +kernel
theorem dX1_walk_29 : decode cX1_walk 29 = .ok (.bipush 64, 2) := by decide +kernel
theorem dX1_walk_31 : decode cX1_walk 31 = .ok (.idiv, 1) := by decide +kernel
theorem dX1_walk_32 : decode cX1_walk 32 = .ok (.dup2, 1) := by decide +kernel
theorem dX1_walk_33 : decode cX1_walk 33 = .ok (.laload, 1) := by decide +kernel
theorem dX1_walk_34 : decode cX1_walk 34 = .ok (.lconst 1, 1) := by decide +kernel
theorem dX1_walk_35 : decode cX1_walk 35 = .ok (.iload_n 2, 1) := by decide +kernel
theorem dX1_walk_36 : decode cX1_walk 36 = .ok (.bipush 64, 2) := by decide +kernel
theorem dX1_walk_38 : decode cX1_walk 38 = .ok (.irem, 1) := by decide +kernel
theorem dX1_walk_39 : decode cX1_walk 39 = .ok (.lshl, 1) := by decide +kernel
theorem dX1_walk_40 : decode cX1_walk 40 = .ok (.lor, 1) := by decide +kernel
theorem dX1_walk_41 : decode cX1_walk 41 = .ok (.lastore, 1) := by decide +kernel
theorem dX1_walk_42 : decode cX1_walk 42 = .ok (.aload_n 0, 1) := by decide +kernel
theorem dX1_walk_43 : decode cX1_walk 43 = .ok (.invokevirtual 125, 3) := by decide +kernel
theorem dX1_walk_46 : decode cX1_walk 46 = .ok (.aload_n 0, 1) := by decide +kernel
theorem dX1_walk_47 : decode cX1_walk 47 = .ok (.invokevirtual 128, 3) := by decide +kernel
theorem dX1_walk_50 : decode cX1_walk 50 = .ok (.istore 4, 2) := by decide +kernel
theorem dX1_walk_52 : decode cX1_walk 52 = .ok (.iload 4, 2) := by decide +kernel
theorem dX1_walk_54 : decode cX1_walk 54 = .ok (.iload_n 2, 1) := by decide +kernel
theorem dX1_walk_55 : decode cX1_walk 55 = .ok (.if_icmp .eq 26, 3) := by decide +kernel
theorem dX1_walk_58 : decode cX1_walk 58 = .ok (.aload_n 0, 1) := by decide +kernel
theorem dX1_walk_59 : decode cX1_walk 59 = .ok (.getfield 42, 3) := by decide +kernel
theorem dX1_walk_62 : decode cX1_walk 62 = .ok (.iload 4, 2) := by decide +kernel
theorem dX1_walk_64 : decode cX1_walk 64 = .ok (.bipush 64, 2) := by decide +kernel
theorem dX1_walk_66 : decode cX1_walk 66 = .ok (.idiv, 1) := by decide +kernel
theorem dX1_walk_67 : decode cX1_walk 67 = .ok (.laload, 1) := by decide +kernel
theorem dX1_walk_68 : decode cX1_walk 68 = .ok (.iload 4, 2) := by decide +kernel
theorem dX1_walk_70 : decode cX1_walk 70 = .ok (.bipush 64, 2) := by decide +kernel
theorem dX1_walk_72 : decode cX1_walk 72 = .ok (.irem, 1) := by decide +kernel
theorem dX1_walk_73 : decode cX1_walk 73 = .ok (.lushr, 1) := by decide +kernel
theorem dX1_walk_74 : decode cX1_walk 74 = .ok (.lconst 1, 1) := by decide +kernel
theorem dX1_walk_75 : decode cX1_walk 75 = .ok (.land, 1) := by decide +kernel
theorem dX1_walk_76 : decode cX1_walk 76 = .ok (.lconst 0, 1) := by decide +kernel
theorem dX1_walk_77 : decode cX1_walk 77 = .ok (.lcmp, 1) := by decide +kernel
theorem dX1_walk_78 : decode cX1_walk 78 = .ok (.ifCond .eq 66, 3) := by decide +kernel
theorem dX1_walk_81 : decode cX1_walk 81 = .ok (.iconst 1, 1) := by decide +kernel
theorem dX1_walk_82 : decode cX1_walk 82 = .ok (.istore 5, 2) := by decide +kernel
theorem dX1_walk_84 : decode cX1_walk 84 = .ok (.iload 4, 2) := by decide +kernel
theorem dX1_walk_86 : decode cX1_walk 86 = .ok (.iload_n 2, 1) := by decide +kernel
theorem dX1_walk_87 : decode cX1_walk 87 = .ok (.if_icmp .eq 7, 3) := by decide +kernel
theorem dX1_walk_90 : decode cX1_walk 90 = .ok (.aload_n 0, 1) := by decide +kernel
theorem dX1_walk_91 : decode cX1_walk 91 = .ok (.invokevirtual 125, 3) := by decide +kernel
theorem dX1_walk_94 : decode cX1_walk 94 = .ok (.iload 5, 2) := by decide +kernel
theorem dX1_walk_96 : decode cX1_walk 96 = .ok (.sipush 9261, 3) := by decide +kernel
theorem dX1_walk_99 : decode cX1_walk 99 = .ok (.if_icmp .ge 22, 3) := by decide +kernel
theorem dX1_walk_102 : decode cX1_walk 102 = .ok (.aload_n 0, 1) := by decide +kernel
theorem dX1_walk_103 : decode cX1_walk 103 = .ok (.invokevirtual 128, 3) := by decide +kernel
theorem dX1_walk_106 : decode cX1_walk 106 = .ok (.iload 4, 2) := by decide +kernel
theorem dX1_walk_108 : decode cX1_walk 108 = .ok (.if_icmp .eq 13, 3) := by decide +kernel
theorem dX1_walk_111 : decode cX1_walk 111 = .ok (.aload_n 0, 1) := by decide +kernel
theorem dX1_walk_112 : decode cX1_walk 112 = .ok (.invokevirtual 125, 3) := by decide +kernel
theorem dX1_walk_115 : decode cX1_walk 115 = .ok (.iinc 5 1, 3) := by decide +kernel
theorem dX1_walk_118 : decode cX1_walk 118 = .ok (.goto (-24), 3) := by decide +kernel
theorem dX1_walk_121 : decode cX1_walk 121 = .ok (.aload_n 0, 1) := by decide +kernel
theorem dX1_walk_122 : decode cX1_walk 122 = .ok (.iload 4, 2) := by decide +kernel
theorem dX1_walk_124 : decode cX1_walk 124 = .ok (.putfield 132, 3) := by decide +kernel
theorem dX1_walk_127 : decode cX1_walk 127 = .ok (.aload_n 0, 1) := by decide +kernel
theorem dX1_walk_128 : decode cX1_walk 128 = .ok (.iload 5, 2) := by decide +kernel
theorem dX1_walk_130 : decode cX1_walk 130 = .ok (.putfield 135, 3) := by decide +kernel
theorem dX1_walk_133 : decode cX1_walk 133 = .ok (.aload_n 0, 1) := by decide +kernel
theorem dX1_walk_134 : decode cX1_walk 134 = .ok (.iload_n 3, 1) := by decide +kernel
theorem dX1_walk_135 : decode cX1_walk 135 = .ok (.iconst 1, 1) := by decide +kernel
theorem dX1_walk_136 : decode cX1_walk 136 = .ok (.iadd, 1) := by decide +kernel
theorem dX1_walk_137 : decode cX1_walk 137 = .ok (.iload 5, 2) := by decide +kernel
theorem dX1_walk_139 : decode cX1_walk 139 = .ok (.isub, 1) := by decide +kernel
theorem dX1_walk_140 : decode cX1_walk 140 = .ok (.putfield 138, 3) := by decide +kernel
theorem dX1_walk_143 : decode cX1_walk 143 = .ok (.return_, 1) := by decide +kernel
theorem dX1_walk_144 : decode cX1_walk 144 = .ok (.iload 4, 2) := by decide +kernel
theorem dX1_walk_146 : decode cX1_walk 146 = .ok (.istore_n 2, 1) := by decide +kernel
theorem dX1_walk_147 : decode cX1_walk 147 = .ok (.iinc 3 1, 3) := by decide +kernel
theorem dX1_walk_150 : decode cX1_walk 150 = .ok (.goto (-133), 3) := by decide +kernel
theorem dX1_walk_153 : decode cX1_walk 153 = .ok (.return_, 1) := by decide +kernel
theorem dX2_init_0 : decode cX2_init 0 = .ok (.aload_n 0, 1) := by decide +kernel
theorem dX2_init_1 : decode cX2_init 1 = .ok (.invokespecial 3, 3) := by decide +kernel
theorem dX2_init_4 : decode cX2_init 4 = .ok (.aload_n 0, 1) := by decide +kernel
theorem dX2_init_5 : decode cX2_init 5 = .ok (.iconst 4, 1) := by decide +kernel
theorem dX2_init_6 : decode cX2_init 6 = .ok (.newarray .int, 2) := by decide +kernel
theorem dX2_init_8 : decode cX2_init 8 = .ok (.dup, 1) := by decide +kernel
theorem dX2_init_9 : decode cX2_init 9 = .ok (.iconst 0, 1) := by decide +kernel
theorem dX2_init_10 : decode cX2_init 10 = .ok (.iconst (-1), 1) := by decide +kernel
theorem dX2_init_11 : decode cX2_init 11 = .ok (.iastore, 1) := by decide +kernel
theorem dX2_init_12 : decode cX2_init 12 = .ok (.dup, 1) := by decide +kernel
theorem dX2_init_13 : decode cX2_init 13 = .ok (.iconst 1, 1) := by decide +kernel
theorem dX2_init_14 : decode cX2_init 14 = .ok (.iconst (-1), 1) := by decide +kernel
theorem dX2_init_15 : decode cX2_init 15 = .ok (.iastore, 1) := by decide +kernel
theorem dX2_init_16 : decode cX2_init 16 = .ok (.dup, 1) := by decide +kernel
theorem dX2_init_17 : decode cX2_init 17 = .ok (.iconst 2, 1) := by decide +kernel
theorem dX2_init_18 : decode cX2_init 18 = .ok (.iconst (-1), 1) := by decide +kernel
theorem dX2_init_19 : decode cX2_init 19 = .ok (.iastore, 1) := by decide +kernel
theorem dX2_init_20 : decode cX2_init 20 = .ok (.dup, 1) := by decide +kernel
theorem dX2_init_21 : decode cX2_init 21 = .ok (.iconst 3, 1) := by decide +kernel
theorem dX2_init_22 : decode cX2_init 22 = .ok (.iconst (-1), 1) := by decide +kernel
theorem dX2_init_23 : decode cX2_init 23 = .ok (.iastore, 1) := by decide +kernel
theorem dX2_init_24 : decode cX2_init 24 = .ok (.putfield 9, 3) := by decide +kernel
theorem dX2_init_27 : decode cX2_init 27 = .ok (.aload_n 0, 1) := by decide +kernel
theorem dX2_init_28 : decode cX2_init 28 = .ok (.iconst 4, 1) := by decide +kernel
theorem dX2_init_29 : decode cX2_init 29 = .ok (.newarray .int, 2) := by decide +kernel
theorem dX2_init_31 : decode cX2_init 31 = .ok (.putfield 15, 3) := by decide +kernel
theorem dX2_init_34 : decode cX2_init 34 = .ok (.aload_n 0, 1) := by decide +kernel
theorem dX2_init_35 : decode cX2_init 35 = .ok (.sipush 160, 3) := by decide +kernel
theorem dX2_init_38 : decode cX2_init 38 = .ok (.newarray .int, 2) := by decide +kernel
theorem dX2_init_40 : decode cX2_init 40 = .ok (.putfield 18, 3) := by decide +kernel
theorem dX2_init_43 : decode cX2_init 43 = .ok (.aload_n 0, 1) := by decide +kernel
theorem dX2_init_44 : decode cX2_init 44 = .ok (.iconst 4, 1) := by decide +kernel
theorem dX2_init_45 : decode cX2_init 45 = .ok (.newarray .int, 2) := by decide +kernel
theorem dX2_init_47 : decode cX2_init 47 = .ok (.dup, 1) := by decide +kernel
theorem dX2_init_48 : decode cX2_init 48 = .ok (.iconst 0, 1) := by decide +kernel
theorem dX2_init_49 : decode cX2_init 49 = .ok (.iconst (-1), 1) := by decide +kernel
theorem dX2_init_50 : decode cX2_init 50 = .ok (.iastore, 1) := by decide +kernel
theorem dX2_init_51 : decode cX2_init 51 = .ok (.dup, 1) := by decide +kernel
theorem dX2_init_52 : decode cX2_init 52 = .ok (.iconst 1, 1) := by decide +kernel
theorem dX2_init_53 : decode cX2_init 53 = .ok (.iconst (-1), 1) := by decide +kernel
theorem dX2_init_54 : decode cX2_init 54 = .ok (.iastore, 1) := by decide +kernel
theorem dX2_init_55 : decode cX2_init 55 = .ok (.dup, 1) := by decide +kernel
theorem dX2_init_56 : decode cX2_init 56 = .ok (.iconst 2, 1) := by decide +kernel
theorem dX2_init_57 : decode cX2_init 57 = .ok (.iconst (-1), 1) := by decide +kernel
theorem dX2_init_58 : decode cX2_init 58 = .ok (.iastore, 1) := by decide +kernel
theorem dX2_init_59 : decode cX2_init 59 = .ok (.dup, 1) := by decide +kernel
theorem dX2_init_60 : decode cX2_init 60 = .ok (.iconst 3, 1) := by decide +kernel
theorem dX2_init_61 : decode cX2_init 61 = .ok (.iconst (-1), 1) := by decide +kernel
theorem dX2_init_62 : decode cX2_init 62 = .ok (.iastore, 1) := by decide +kernel
theorem dX2_init_63 : decode cX2_init 63 = .ok (.putfield 21, 3) := by decide +kernel
theorem dX2_init_66 : decode cX2_init 66 = .ok (.aload_n 0, 1) := by decide +kernel
theorem dX2_init_67 : decode cX2_init 67 = .ok (.iconst 4, 1) := by decide +kernel
theorem dX2_init_68 : decode cX2_init 68 = .ok (.newarray .int, 2) := by decide +kernel
theorem dX2_init_70 : decode cX2_init 70 = .ok (.dup, 1) := by decide +kernel
theorem dX2_init_71 : decode cX2_init 71 = .ok (.iconst 0, 1) := by decide +kernel
theorem dX2_init_72 : decode cX2_init 72 = .ok (.iconst (-1), 1) := by decide +kernel
theorem dX2_init_73 : decode cX2_init 73 = .ok (.iastore, 1) := by decide +kernel
theorem dX2_init_74 : decode cX2_init 74 = .ok (.dup, 1) := by decide +kernel
theorem dX2_init_75 : decode cX2_init 75 = .ok (.iconst 1, 1) := by decide +kernel
theorem dX2_init_76 : decode cX2_init 76 = .ok (.iconst (-1), 1) := by decide +kernel
theorem dX2_init_77 : decode cX2_init 77 = .ok (.iastore, 1) := by decide +kernel
theorem dX2_init_78 : decode cX2_init 78 = .ok (.dup, 1) := by decide +kernel
theorem dX2_init_79 : decode cX2_init 79 = .ok (.iconst 2, 1) := by decide +kernel
theorem dX2_init_80 : decode cX2_init 80 = .ok (.iconst (-1), 1) := by decide +kernel
theorem dX2_init_81 : decode cX2_init 81 = .ok (.iastore, 1) := by decide +kernel
theorem dX2_init_82 : decode cX2_init 82 = .ok (.dup, 1) := by decide +kernel
theorem dX2_init_83 : decode cX2_init 83 = .ok (.iconst 3, 1) := by decide +kernel
theorem dX2_init_84 : decode cX2_init 84 = .ok (.iconst (-1), 1) := by decide +kernel
theorem dX2_init_85 : decode cX2_init 85 = .ok (.iastore, 1) := by decide +kernel
theorem dX2_init_86 : decode cX2_init 86 = .ok (.putfield 24, 3) := by decide +kernel
theorem dX2_init_89 : decode cX2_init 89 = .ok (.aload_n 0, 1) := by decide +kernel
theorem dX2_init_90 : decode cX2_init 90 = .ok (.iconst 4, 1) := by decide +kernel
theorem dX2_init_91 : decode cX2_init 91 = .ok (.newarray .int, 2) := by decide +kernel
theorem dX2_init_93 : decode cX2_init 93 = .ok (.putfield 27, 3) := by decide +kernel
theorem dX2_init_96 : decode cX2_init 96 = .ok (.return_, 1) := by decide +kernel
theorem dX2_lay_0 : decode cX2_lay 0 = .ok (.aload_n 0, 1) := by decide +kernel
theorem dX2_lay_1 : decode cX2_lay 1 = .ok (.getfield 9, 3) := by decide +kernel
theorem dX2_lay_4 : decode cX2_lay 4 = .ok (.iload_n 1, 1) := by decide +kernel
theorem dX2_lay_5 : decode cX2_lay 5 = .ok (.iload_n 2, 1) := by decide +kernel
theorem dX2_lay_6 : decode cX2_lay 6 = .ok (.iastore, 1) := by decide +kernel
theorem dX2_lay_7 : decode cX2_lay 7 = .ok (.aload_n 0, 1) := by decide +kernel
theorem dX2_lay_8 : decode cX2_lay 8 = .ok (.getfield 15, 3) := by decide +kernel
theorem dX2_lay_11 : decode cX2_lay 11 = .ok (.iload_n 1, 1) := by decide +kernel
theorem dX2_lay_12 : decode cX2_lay 12 = .ok (.iload_n 2, 1) := by decide +kernel
theorem dX2_lay_13 : decode cX2_lay 13 = .ok (.ifCond .ge 7, 3) := by decide +kernel
theorem dX2_lay_16 : decode cX2_lay 16 = .ok (.iconst 0, 1) := by decide +kernel
theorem dX2_lay_17 : decode cX2_lay 17 = .ok (.goto 4, 3) := by decide +kernel
theorem dX2_lay_20 : decode cX2_lay 20 = .ok (.iload_n 3, 1) := by decide +kernel
theorem dX2_lay_21 : decode cX2_lay 21 = .ok (.iastore, 1) := by decide +kernel
theorem dX2_lay_22 : decode cX2_lay 22 = .ok (.iconst 0, 1) := by decide +kernel
theorem dX2_lay_23 : decode cX2_lay 23 = .ok (.istore 4, 2) := by decide +kernel
theorem dX2_lay_25 : decode cX2_lay 25 = .ok (.iload 4, 2) := by decide +kernel
theorem dX2_lay_27 : decode cX2_lay 27 = .ok (.bipush 40, 2) := by decide +kernel
theorem dX2_lay_29 : decode cX2_lay 29 = .ok (.if_icmp .ge 22, 3) := by decide +kernel
theorem dX2_lay_32 : decode cX2_lay 32 = .ok (.aload_n 0, 1) := by decide +kernel
theorem dX2_lay_33 : decode cX2_lay 33 = .ok (.getfield 18, 3) := by decide +kernel
theorem dX2_lay_36 : decode cX2_lay 36 = .ok (.iload_n 1, 1) := by decide +kernel
theorem dX2_lay_37 : decode cX2_lay 37 = .ok (.bipush 40, 2) := by decide +kernel
theorem dX2_lay_39 : decode cX2_lay 39 = .ok (.imul, 1) := by decide +kernel
theorem dX2_lay_40 : decode cX2_lay 40 = .ok (.iload 4, 2) := by decide +kernel
theorem dX2_lay_42 : decode cX2_lay 42 = .ok (.iadd, 1) := by decide +kernel
theorem dX2_lay_43 : decode cX2_lay 43 = .ok (.iconst 0, 1) := by decide +kernel
theorem dX2_lay_44 : decode cX2_lay 44 = .ok (.iastore, 1) := by decide +kernel
theorem dX2_lay_45 : decode cX2_lay 45 = .ok (.iinc 4 1, 3) := by decide +kernel
theorem dX2_lay_48 : decode cX2_lay 48 = .ok (.goto (-23), 3) := by decide +kernel
theorem dX2_lay_51 : decode cX2_lay 51 = .ok (.return_, 1) := by decide +kernel
theorem dX2_refusal_0 : decode cX2_refusal 0 = .ok (.aload_n 0, 1) := by decide +kernel
theorem dX2_refusal_1 : decode cX2_refusal 1 = .ok (.getfield 9, 3) := by decide +kernel
theorem dX2_refusal_4 : decode cX2_refusal 4 = .ok (.iload_n 1, 1) := by decide +kernel
theorem dX2_refusal_5 : decode cX2_refusal 5 = .ok (.iaload, 1) := by decide +kernel
theorem dX2_refusal_6 : decode cX2_refusal 6 = .ok (.ifCond .ge 6, 3) := by decide +kernel
theorem dX2_refusal_9 : decode cX2_refusal 9 = .ok (.bipush (-11), 2) := by decide +kernel
theorem dX2_refusal_11 : decode cX2_refusal 11 = .ok (.ireturn, 1) := by decide +kernel
theorem dX2_refusal_12 : decode cX2_refusal 12 = .ok (.aload_n 0, 1) := by decide +kernel
theorem dX2_refusal_13 : decode cX2_refusal 13 = .ok (.getfield 9, 3) := by decide +kernel
theorem dX2_refusal_16 : decode cX2_refusal 16 = .ok (.iload_n 1, 1) := by decide +kernel
theorem dX2_refusal_17 : decode cX2_refusal 17 = .ok (.iaload, 1) := by decide +kernel
theorem dX2_refusal_18 : decode cX2_refusal 18 = .ok (.iload_n 2, 1) := by decide +kernel
theorem dX2_refusal_19 : decode cX2_refusal 19 = .ok (.if_icmp .ne 7, 3) := by decide +kernel
theorem dX2_refusal_22 : decode cX2_refusal 22 = .ok (.iconst 0, 1) := by decide +kernel
theorem dX2_refusal_23 : decode cX2_refusal 23 = .ok (.goto 5, 3) := by decide +kernel
theorem dX2_refusal_26 : decode cX2_refusal 26 = .ok (.bipush (-13), 2) := by decide +kernel
theorem dX2_refusal_28 : decode cX2_refusal 28 = .ok (.ireturn, 1) := by decide +kernel
theorem dX2_hasItem_0 : decode cX2_hasItem 0 = .ok (.iload_n 2, 1) := by decide +kernel
theorem dX2_hasItem_1 : decode cX2_hasItem 1 = .ok (.iconst 0, 1) := by decide +kernel
theorem dX2_hasItem_2 : decode cX2_hasItem 2 = .ok (.aload_n 0, 1) := by decide +kernel
theorem dX2_hasItem_3 : decode cX2_hasItem 3 = .ok (.getfield 15, 3) := by decide +kernel
theorem dX2_hasItem_6 : decode cX2_hasItem 6 = .ok (.iload_n 1, 1) := by decide +kernel
theorem dX2_hasItem_7 : decode cX2_hasItem 7 = .ok (.iaload, 1) := by decide +kernel
theorem dX2_hasItem_8 : decode cX2_hasItem 8 = .ok (.iconst 1, 1) := by decide +kernel
theorem dX2_hasItem_9 : decode cX2_hasItem 9 = .ok (.isub, 1) := by decide +kernel
theorem dX2_hasItem_10 : decode cX2_hasItem 10 = .ok (.invokestatic 30, 3) := by decide +kernel
theorem dX2_hasItem_13 : decode cX2_hasItem 13 = .ok (.ireturn, 1) := by decide +kernel
theorem dX2_itemAt_0 : decode cX2_itemAt 0 = .ok (.aload_n 0, 1) := by decide +kernel
theorem dX2_itemAt_1 : decode cX2_itemAt 1 = .ok (.getfield 18, 3) := by decide +kernel
theorem dX2_itemAt_4 : decode cX2_itemAt 4 = .ok (.iload_n 1, 1) := by decide +kernel
theorem dX2_itemAt_5 : decode cX2_itemAt 5 = .ok (.bipush 40, 2) := by decide +kernel
theorem dX2_itemAt_7 : decode cX2_itemAt 7 = .ok (.imul, 1) := by decide +kernel
theorem dX2_itemAt_8 : decode cX2_itemAt 8 = .ok (.iload_n 2, 1) := by decide +kernel
theorem dX2_itemAt_9 : decode cX2_itemAt 9 = .ok (.iadd, 1) := by decide +kernel
theorem dX2_itemAt_10 : decode cX2_itemAt 10 = .ok (.iaload, 1) := by decide +kernel
theorem dX2_itemAt_11 : decode cX2_itemAt 11 = .ok (.ireturn, 1) := by decide +kernel
theorem dX2_write_0 : decode cX2_write 0 = .ok (.aload_n 0, 1) := by decide +kernel
theorem dX2_write_1 : decode cX2_write 1 = .ok (.getfield 18, 3) := by decide +kernel
theorem dX2_write_4 : decode cX2_write 4 = .ok (.iload_n 1, 1) := by decide +kernel
theorem dX2_write_5 : decode cX2_write 5 = .ok (.bipush 40, 2) := by decide +kernel
theorem dX2_write_7 : decode cX2_write 7 = .ok (.imul, 1) := by decide +kernel
theorem dX2_write_8 : decode cX2_write 8 = .ok (.iload_n 2, 1) := by decide +kernel
theorem dX2_write_9 : decode cX2_write 9 = .ok (.iadd, 1) := by decide +kernel
theorem dX2_write_10 : decode cX2_write 10 = .ok (.aload_n 0, 1) := by decide +kernel
theorem dX2_write_11 : decode cX2_write 11 = .ok (.getfield 9, 3) := by decide +kernel
theorem dX2_write_14 : decode cX2_write 14 = .ok (.iload_n 1, 1) := by decide +kernel
theorem dX2_write_15 : decode cX2_write 15 = .ok (.iaload, 1) := by decide +kernel
theorem dX2_write_16 : decode cX2_write 16 = .ok (.ifCond .ne 8, 3) := by decide +kernel
theorem dX2_write_19 : decode cX2_write 19 = .ok (.iload_n 3, 1) := by decide +kernel
theorem dX2_write_20 : decode cX2_write 20 = .ok (.i2b, 1) := by decide +kernel
theorem dX2_write_21 : decode cX2_write 21 = .ok (.goto 19, 3) := by decide +kernel
theorem dX2_write_24 : decode cX2_write 24 = .ok (.aload_n 0, 1) := by decide +kernel
theorem dX2_write_25 : decode cX2_write 25 = .ok (.getfield 9, 3) := by decide +kernel
theorem dX2_write_28 : decode cX2_write 28 = .ok (.iload_n 1, 1) := by decide +kernel
theorem dX2_write_29 : decode cX2_write 29 = .ok (.iaload, 1) := by decide +kernel
theorem dX2_write_30 : decode cX2_write 30 = .ok (.iconst 1, 1) := by decide +kernel
theorem dX2_write_31 : decode cX2_write 31 = .ok (.if_icmp .ne 8, 3) := by decide +kernel
theorem dX2_write_34 : decode cX2_write 34 = .ok (.iload_n 3, 1) := by decide +kernel
theorem dX2_write_35 : decode cX2_write 35 = .ok (.i2s, 1) := by decide +kernel
theorem dX2_write_36 : decode cX2_write 36 = .ok (.goto 4, 3) := by decide +kernel
theorem dX2_write_39 : decode cX2_write 39 = .ok (.iload_n 3, 1) := by decide +kernel
theorem dX2_write_40 : decode cX2_write 40 = .ok (.iastore, 1) := by decide +kernel
theorem dX2_write_41 : decode cX2_write 41 = .ok (.return_, 1) := by decide +kernel
theorem dX2_isTable_0 : decode cX2_isTable 0 = .ok (.aload_n 0, 1) := by decide +kernel
theorem dX2_isTable_1 : decode cX2_isTable 1 = .ok (.getfield 15, 3) := by decide +kernel
theorem dX2_isTable_4 : decode cX2_isTable 4 = .ok (.iload_n 1, 1) := by decide +kernel
theorem dX2_isTable_5 : decode cX2_isTable 5 = .ok (.iaload, 1) := by decide +kernel
theorem dX2_isTable_6 : decode cX2_isTable 6 = .ok (.bipush 21, 2) := by decide +kernel
theorem dX2_isTable_8 : decode cX2_isTable 8 = .ok (.if_icmp .eq 5, 3) := by decide +kernel
theorem dX2_isTable_11 : decode cX2_isTable 11 = .ok (.iconst 0, 1) := by decide +kernel
theorem dX2_isTable_12 : decode cX2_isTable 12 = .ok (.ireturn, 1) := by decide +kernel
theorem dX2_isTable_13 : decode cX2_isTable 13 = .ok (.iconst 0, 1) := by decide +kernel
theorem dX2_isTable_14 : decode cX2_isTable 14 = .ok (.istore_n 2, 1) := by decide +kernel
theorem dX2_isTable_15 : decode cX2_isTable 15 = .ok (.iload_n 2, 1) := by decide +kernel
theorem dX2_isTable_16 : decode cX2_isTable 16 = .ok (.bipush 21, 2) := by decide +kernel
theorem dX2_isTable_18 : decode cX2_isTable 18 = .ok (.if_icmp .ge 26, 3) := by decide +kernel
theorem dX2_isTable_21 : decode cX2_isTable 21 = .ok (.aload_n 0, 1) := by decide +kernel
theorem dX2_isTable_22 : decode cX2_isTable 22 = .ok (.iload_n 1, 1) := by decide +kernel
theorem dX2_isTable_23 : decode cX2_isTable 23 = .ok (.iload_n 2, 1) := by decide +kernel
theorem dX2_isTable_24 : decode cX2_isTable 24 = .ok (.invokevirtual 34, 3) := by decide +kernel
theorem dX2_isTable_27 : decode cX2_isTable 27 = .ok (.iconst 0, 1) := by decide +kernel
theorem dX2_isTable_28 : decode cX2_isTable 28 = .ok (.bipush 30, 2) := by decide +kernel
theorem dX2_isTable_30 : decode cX2_isTable 30 = .ok (.invokestatic 30, 3) := by decide +kernel
theorem dX2_isTable_33 : decode cX2_isTable 33 = .ok (.ifCond .ne 5, 3) := by decide +kernel
theorem dX2_isTable_36 : decode cX2_isTable 36 = .ok (.iconst 0, 1) := by decide +kernel
theorem dX2_isTable_37 : decode cX2_isTable 37 = .ok (.ireturn, 1) := by decide +kernel
theorem dX2_isTable_38 : decode cX2_isTable 38 = .ok (.iinc 2 1, 3) := by decide +kernel
theorem dX2_isTable_41 : decode cX2_isTable 41 = .ok (.goto (-26), 3) := by decide +kernel
theorem dX2_isTable_44 : decode cX2_isTable 44 = .ok (.iconst 1, 1) := by decide +kernel
theorem dX2_isTable_45 : decode cX2_isTable 45 = .ok (.ireturn, 1) := by decide +kernel
theorem dX2_holdNothing_0 : decode cX2_holdNothing 0 = .ok (.aload_n 0, 1) := by decide +kernel
theorem dX2_holdNothing_1 : decode cX2_holdNothing 1 = .ok (.getfield 21, 3) := by decide +kernel
theorem dX2_holdNothing_4 : decode cX2_holdNothing 4 = .ok (.iload_n 1, 1) := by decide +kernel
theorem dX2_holdNothing_5 : decode cX2_holdNothing 5 = .ok (.iconst (-1), 1) := by decide +kernel
theorem dX2_holdNothing_6 : decode cX2_holdNothing 6 = .ok (.iastore, 1) := by decide +kernel
theorem dX2_holdNothing_7 : decode cX2_holdNothing 7 = .ok (.aload_n 0, 1) := by decide +kernel
theorem dX2_holdNothing_8 : decode cX2_holdNothing 8 = .ok (.getfield 24, 3) := by decide +kernel
theorem dX2_holdNothing_11 : decode cX2_holdNothing 11 = .ok (.iload_n 1, 1) := by decide +kernel
theorem dX2_holdNothing_12 : decode cX2_holdNothing 12 = .ok (.iconst (-1), 1) := by decide +kernel
theorem dX2_holdNothing_13 : decode cX2_holdNothing 13 = .ok (.iastore, 1) := by decide +kernel
theorem dX2_holdNothing_14 : decode cX2_holdNothing 14 = .ok (.return_, 1) := by decide +kernel
theorem dX2_holdPart_0 : decode cX2_holdPart 0 = .ok (.aload_n 0, 1) := by decide +kernel
theorem dX2_holdPart_1 : decode cX2_holdPart 1 = .ok (.getfield 21, 3) := by decide +kernel
theorem dX2_holdPart_4 : decode cX2_holdPart 4 = .ok (.iload_n 1, 1) := by decide +kernel
theorem dX2_holdPart_5 : decode cX2_holdPart 5 = .ok (.iload_n 2, 1) := by decide +kernel
theorem dX2_holdPart_6 : decode cX2_holdPart 6 = .ok (.iastore, 1) := by decide +kernel
theorem dX2_holdPart_7 : decode cX2_holdPart 7 = .ok (.aload_n 0, 1) := by decide +kernel
theorem dX2_holdPart_8 : decode cX2_holdPart 8 = .ok (.getfield 24, 3) := by decide +kernel
theorem dX2_holdPart_11 : decode cX2_holdPart 11 = .ok (.iload_n 1, 1) := by decide +kernel
theorem dX2_holdPart_12 : decode cX2_holdPart 12 = .ok (.iconst (-1), 1) := by decide +kernel
theorem dX2_holdPart_13 : decode cX2_holdPart 13 = .ok (.iastore, 1) := by decide +kernel
theorem dX2_holdPart_14 : decode cX2_holdPart 14 = .ok (.return_, 1) := by decide +kernel
theorem dX2_holdRow_0 : decode cX2_holdRow 0 = .ok (.aload_n 0, 1) := by decide +kernel
theorem dX2_holdRow_1 : decode cX2_holdRow 1 = .ok (.getfield 21, 3) := by decide +kernel
theorem dX2_holdRow_4 : decode cX2_holdRow 4 = .ok (.iload_n 1, 1) := by decide +kernel
theorem dX2_holdRow_5 : decode cX2_holdRow 5 = .ok (.iconst (-1), 1) := by decide +kernel
theorem dX2_holdRow_6 : decode cX2_holdRow 6 = .ok (.iastore, 1) := by decide +kernel
theorem dX2_holdRow_7 : decode cX2_holdRow 7 = .ok (.aload_n 0, 1) := by decide +kernel
theorem dX2_holdRow_8 : decode cX2_holdRow 8 = .ok (.getfield 24, 3) := by decide +kernel
theorem dX2_holdRow_11 : decode cX2_holdRow 11 = .ok (.iload_n 1, 1) := by decide +kernel
theorem dX2_holdRow_12 : decode cX2_holdRow 12 = .ok (.aload_n 0, 1) := by decide +kernel
theorem dX2_holdRow_13 : decode cX2_holdRow 13 = .ok (.getfield 9, 3) := by decide +kernel
theorem dX2_holdRow_16 : decode cX2_holdRow 16 = .ok (.iload_n 2, 1) := by decide +kernel
theorem dX2_holdRow_17 : decode cX2_holdRow 17 = .ok (.iaload, 1) := by decide +kernel
theorem dX2_holdRow_18 : decode cX2_holdRow 18 = .ok (.iastore, 1) := by decide +kernel
theorem dX2_holdRow_19 : decode cX2_holdRow 19 = .ok (.aload_n 0, 1) := by decide +kernel
theorem dX2_holdRow_20 : decode cX2_holdRow 20 = .ok (.getfield 27, 3) := by decide +kernel
theorem dX2_holdRow_23 : decode cX2_holdRow 23 = .ok (.iload_n 1, 1) := by decide +kernel
theorem dX2_holdRow_24 : decode cX2_holdRow 24 = .ok (.aload_n 0, 1) := by decide +kernel
theorem dX2_holdRow_25 : decode cX2_holdRow 25 = .ok (.getfield 15, 3) := by decide +kernel
theorem dX2_holdRow_28 : decode cX2_holdRow 28 = .ok (.iload_n 2, 1) := by decide +kernel
theorem dX2_holdRow_29 : decode cX2_holdRow 29 = .ok (.iaload, 1) := by decide +kernel
theorem dX2_holdRow_30 : decode cX2_holdRow 30 = .ok (.iastore, 1) := by decide +kernel
theorem dX2_holdRow_31 : decode cX2_holdRow 31 = .ok (.return_, 1) := by decide +kernel
theorem dX2_holdsRow_0 : decode cX2_holdsRow 0 = .ok (.aload_n 0, 1) := by decide +kernel
theorem dX2_holdsRow_1 : decode cX2_holdsRow 1 = .ok (.getfield 24, 3) := by decide +kernel
theorem dX2_holdsRow_4 : decode cX2_holdsRow 4 = .ok (.iload_n 1, 1) := by decide +kernel
theorem dX2_holdsRow_5 : decode cX2_holdsRow 5 = .ok (.iaload, 1) := by decide +kernel
theorem dX2_holdsRow_6 : decode cX2_holdsRow 6 = .ok (.ifCond .lt 7, 3) := by decide +kernel
theorem dX2_holdsRow_9 : decode cX2_holdsRow 9 = .ok (.iconst 1, 1) := by decide +kernel
theorem dX2_holdsRow_10 : decode cX2_holdsRow 10 = .ok (.goto 4, 3) := by decide +kernel
theorem dX2_holdsRow_13 : decode cX2_holdsRow 13 = .ok (.iconst 0, 1) := by decide +kernel
theorem dX2_holdsRow_14 : decode cX2_holdsRow 14 = .ok (.ireturn, 1) := by decide +kernel
theorem dX3_init_0 : decode cX3_init 0 = .ok (.aload_n 0, 1) := by decide +kernel
theorem dX3_init_1 : decode cX3_init 1 = .ok (.invokespecial 3, 3) := by decide +kernel
theorem dX3_init_4 : decode cX3_init 4 = .ok (.return_, 1) := by decide +kernel
theorem dX3_become_0 : decode cX3_become 0 = .ok (.aload_n 0, 1) := by decide +kernel
theorem dX3_become_1 : decode cX3_become 1 = .ok (.iload_n 1, 1) := by decide +kernel
theorem dX3_become_2 : decode cX3_become 2 = .ok (.putfield 9, 3) := by decide +kernel
theorem dX3_become_5 : decode cX3_become 5 = .ok (.aload_n 0, 1) := by decide +kernel
theorem dX3_become_6 : decode cX3_become 6 = .ok (.iload_n 2, 1) := by decide +kernel
theorem dX3_become_7 : decode cX3_become 7 = .ok (.bipush 10, 2) := by decide +kernel
theorem dX3_become_9 : decode cX3_become 9 = .ok (.idiv, 1) := by decide +kernel
theorem dX3_become_10 : decode cX3_become 10 = .ok (.putfield 15, 3) := by decide +kernel
theorem dX3_become_13 : decode cX3_become 13 = .ok (.aload_n 0, 1) := by decide +kernel
theorem dX3_become_14 : decode cX3_become 14 = .ok (.iload_n 2, 1) := by decide +kernel
theorem dX3_become_15 : decode cX3_become 15 = .ok (.bipush 10, 2) := by decide +kernel
theorem dX3_become_17 : decode cX3_become 17 = .ok (.irem, 1) := by decide +kernel
theorem dX3_become_18 : decode cX3_become 18 = .ok (.putfield 18, 3) := by decide +kernel
theorem dX3_become_21 : decode cX3_become 21 = .ok (.aload_n 0, 1) := by decide +kernel
theorem dX3_become_22 : decode cX3_become 22 = .ok (.iload_n 3, 1) := by decide +kernel
theorem dX3_become_23 : decode cX3_become 23 = .ok (.putfield 21, 3) := by decide +kernel
theorem dX3_become_26 : decode cX3_become 26 = .ok (.aload_n 0, 1) := by decide +kernel
theorem dX3_become_27 : decode cX3_become 27 = .ok (.iconst 0, 1) := by decide +kernel
theorem dX3_become_28 : decode cX3_become 28 = .ok (.putfield 24, 3) := by decide +kernel
theorem dX3_become_31 : decode cX3_become 31 = .ok (.aload_n 0, 1) := by decide +kernel
theorem dX3_become_32 : decode cX3_become 32 = .ok (.aload_n 0, 1) := by decide +kernel
theorem dX3_become_33 : decode cX3_become 33 = .ok (.getfield 9, 3) := by decide +kernel
theorem dX3_become_36 : decode cX3_become 36 = .ok (.invokestatic 27, 3) := by decide +kernel
theorem dX3_become_39 : decode cX3_become 39 = .ok (.ifCond .eq 11, 3) := by decide +kernel
theorem dX3_become_42 : decode cX3_become 42 = .ok (.iload 4, 2) := by decide +kernel
theorem dX3_become_44 : decode cX3_become 44 = .ok (.bipush 100, 2) := by decide +kernel
theorem dX3_become_46 : decode cX3_become 46 = .ok (.idiv, 1) := by decide +kernel
theorem dX3_become_47 : decode cX3_become 47 = .ok (.goto 5, 3) := by decide +kernel
theorem dX3_become_50 : decode cX3_become 50 = .ok (.bipush (-9), 2) := by decide +kernel
theorem dX3_become_52 : decode cX3_become 52 = .ok (.putfield 31, 3) := by decide +kernel
theorem dX3_become_55 : decode cX3_become 55 = .ok (.aload_n 0, 1) := by decide +kernel
theorem dX3_become_56 : decode cX3_become 56 = .ok (.aload_n 0, 1) := by decide +kernel
theorem dX3_become_57 : decode cX3_become 57 = .ok (.getfield 9, 3) := by decide +kernel
theorem dX3_become_60 : decode cX3_become 60 = .ok (.invokestatic 27, 3) := by decide +kernel
theorem dX3_become_63 : decode cX3_become 63 = .ok (.ifCond .eq 14, 3) := by decide +kernel
theorem dX3_become_66 : decode cX3_become 66 = .ok (.iload 4, 2) := by decide +kernel
theorem dX3_become_68 : decode cX3_become 68 = .ok (.bipush 10, 2) := by decide +kernel
theorem dX3_become_70 : decode cX3_become 70 = .ok (.idiv, 1) := by decide +kernel
theorem dX3_become_71 : decode cX3_become 71 = .ok (.bipush 10, 2) := by decide +kernel
theorem dX3_become_73 : decode cX3_become 73 = .ok (.irem, 1) := by decide +kernel
theorem dX3_become_74 : decode cX3_become 74 = .ok (.goto 5, 3) := by decide +kernel
theorem dX3_become_77 : decode cX3_become 77 = .ok (.bipush (-9), 2) := by decide +kernel
theorem dX3_become_79 : decode cX3_become 79 = .ok (.putfield 34, 3) := by decide +kernel
theorem dX3_become_82 : decode cX3_become 82 = .ok (.aload_n 0, 1) := by decide +kernel
theorem dX3_become_83 : decode cX3_become 83 = .ok (.aload_n 0, 1) := by decide +kernel
theorem dX3_become_84 : decode cX3_become 84 = .ok (.getfield 9, 3) := by decide +kernel
theorem dX3_become_87 : decode cX3_become 87 = .ok (.invokestatic 27, 3) := by decide +kernel
theorem dX3_become_90 : decode cX3_become 90 = .ok (.ifCond .eq 11, 3) := by decide +kernel
theorem dX3_become_93 : decode cX3_become 93 = .ok (.iload 4, 2) := by decide +kernel
theorem dX3_become_95 : decode cX3_become 95 = .ok (.bipush 10, 2) := by decide +kernel
theorem dX3_become_97 : decode cX3_become 97 = .ok (.irem, 1) := by decide +kernel
theorem dX3_become_98 : decode cX3_become 98 = .ok (.goto 5, 3) := by decide +kernel
theorem dX3_become_101 : decode cX3_become 101 = .ok (.bipush (-9), 2) := by decide +kernel
theorem dX3_become_103 : decode cX3_become 103 = .ok (.putfield 37, 3) := by decide +kernel
theorem dX3_become_106 : decode cX3_become 106 = .ok (.aload_n 0, 1) := by decide +kernel
theorem dX3_become_107 : decode cX3_become 107 = .ok (.aload_n 0, 1) := by decide +kernel
theorem dX3_become_108 : decode cX3_become 108 = .ok (.getfield 9, 3) := by decide +kernel
theorem dX3_become_111 : decode cX3_become 111 = .ok (.invokestatic 40, 3) := by decide +kernel
theorem dX3_become_114 : decode cX3_become 114 = .ok (.ifCond .eq 11, 3) := by decide +kernel
theorem dX3_become_117 : decode cX3_become 117 = .ok (.iload 5, 2) := by decide +kernel
theorem dX3_become_119 : decode cX3_become 119 = .ok (.bipush 10, 2) := by decide +kernel
theorem dX3_become_121 : decode cX3_become 121 = .ok (.irem, 1) := by decide +kernel
theorem dX3_become_122 : decode cX3_become 122 = .ok (.goto 5, 3) := by decide +kernel
theorem dX3_become_125 : decode cX3_become 125 = .ok (.bipush (-9), 2) := by decide +kernel
theorem dX3_become_127 : decode cX3_become 127 = .ok (.putfield 43, 3) := by decide +kernel
theorem dX3_become_130 : decode cX3_become 130 = .ok (.aload_n 0, 1) := by decide +kernel
theorem dX3_become_131 : decode cX3_become 131 = .ok (.aload_n 0, 1) := by decide +kernel
theorem dX3_become_132 : decode cX3_become 132 = .ok (.getfield 9, 3) := by decide +kernel
theorem dX3_become_135 : decode cX3_become 135 = .ok (.iconst 3, 1) := by decide +kernel
theorem dX3_become_136 : decode cX3_become 136 = .ok (.if_icmp .ne 11, 3) := by decide +kernel
theorem dX3_become_139 : decode cX3_become 139 = .ok (.iload 5, 2) := by decide +kernel
theorem dX3_become_141 : decode cX3_become 141 = .ok (.bipush 10, 2) := by decide +kernel
theorem dX3_become_143 : decode cX3_become 143 = .ok (.idiv, 1) := by decide +kernel
theorem dX3_become_144 : decode cX3_become 144 = .ok (.goto 5, 3) := by decide +kernel
theorem dX3_become_147 : decode cX3_become 147 = .ok (.bipush (-9), 2) := by decide +kernel
theorem dX3_become_149 : decode cX3_become 149 = .ok (.putfield 46, 3) := by decide +kernel
theorem dX3_become_152 : decode cX3_become 152 = .ok (.aload_n 0, 1) := by decide +kernel
theorem dX3_become_153 : decode cX3_become 153 = .ok (.iconst 0, 1) := by decide +kernel
theorem dX3_become_154 : decode cX3_become 154 = .ok (.putfield 49, 3) := by decide +kernel
theorem dX3_become_157 : decode cX3_become 157 = .ok (.aload_n 0, 1) := by decide +kernel
theorem dX3_become_158 : decode cX3_become 158 = .ok (.iconst 0, 1) := by decide +kernel
theorem dX3_become_159 : decode cX3_become 159 = .ok (.putfield 52, 3) := by decide +kernel
theorem dX3_become_162 : decode cX3_become 162 = .ok (.return_, 1) := by decide +kernel
theorem dX3_copyFrom_0 : decode cX3_copyFrom 0 = .ok (.aload_n 0, 1) := by decide +kernel
theorem dX3_copyFrom_1 : decode cX3_copyFrom 1 = .ok (.aload_n 1, 1) := by decide +kernel
theorem dX3_copyFrom_2 : decode cX3_copyFrom 2 = .ok (.getfield 9, 3) := by decide +kernel
theorem dX3_copyFrom_5 : decode cX3_copyFrom 5 = .ok (.putfield 9, 3) := by decide +kernel
theorem dX3_copyFrom_8 : decode cX3_copyFrom 8 = .ok (.aload_n 0, 1) := by decide +kernel
theorem dX3_copyFrom_9 : decode cX3_copyFrom 9 = .ok (.aload_n 1, 1) := by decide +kernel
theorem dX3_copyFrom_10 : decode cX3_copyFrom 10 = .ok (.getfield 15, 3) := by decide +kernel
theorem dX3_copyFrom_13 : decode cX3_copyFrom 13 = .ok (.putfield 15, 3) := by decide +kernel
theorem dX3_copyFrom_16 : decode cX3_copyFrom 16 = .ok (.aload_n 0, 1) := by decide +kernel
theorem dX3_copyFrom_17 : decode cX3_copyFrom 17 = .ok (.aload_n 1, 1) := by decide +kernel
theorem dX3_copyFrom_18 : decode cX3_copyFrom 18 = .ok (.getfield 18, 3) := by decide +kernel
theorem dX3_copyFrom_21 : decode cX3_copyFrom 21 = .ok (.putfield 18, 3) := by decide +kernel
theorem dX3_copyFrom_24 : decode cX3_copyFrom 24 = .ok (.aload_n 0, 1) := by decide +kernel
theorem dX3_copyFrom_25 : decode cX3_copyFrom 25 = .ok (.aload_n 1, 1) := by decide +kernel
theorem dX3_copyFrom_26 : decode cX3_copyFrom 26 = .ok (.getfield 21, 3) := by decide +kernel
theorem dX3_copyFrom_29 : decode cX3_copyFrom 29 = .ok (.putfield 21, 3) := by decide +kernel
theorem dX3_copyFrom_32 : decode cX3_copyFrom 32 = .ok (.aload_n 0, 1) := by decide +kernel
theorem dX3_copyFrom_33 : decode cX3_copyFrom 33 = .ok (.aload_n 1, 1) := by decide +kernel
theorem dX3_copyFrom_34 : decode cX3_copyFrom 34 = .ok (.getfield 24, 3) := by decide +kernel
theorem dX3_copyFrom_37 : decode cX3_copyFrom 37 = .ok (.putfield 24, 3) := by decide +kernel
theorem dX3_copyFrom_40 : decode cX3_copyFrom 40 = .ok (.aload_n 0, 1) := by decide +kernel
theorem dX3_copyFrom_41 : decode cX3_copyFrom 41 = .ok (.aload_n 1, 1) := by decide +kernel
theorem dX3_copyFrom_42 : decode cX3_copyFrom 42 = .ok (.getfield 31, 3) := by decide +kernel
theorem dX3_copyFrom_45 : decode cX3_copyFrom 45 = .ok (.putfield 31, 3) := by decide +kernel
theorem dX3_copyFrom_48 : decode cX3_copyFrom 48 = .ok (.aload_n 0, 1) := by decide +kernel
theorem dX3_copyFrom_49 : decode cX3_copyFrom 49 = .ok (.aload_n 1, 1) := by decide +kernel
theorem dX3_copyFrom_50 : decode cX3_copyFrom 50 = .ok (.getfield 34, 3) := by decide +kernel
theorem dX3_copyFrom_53 : decode cX3_copyFrom 53 = .ok (.putfield 34, 3) := by decide +kernel
theorem dX3_copyFrom_56 : decode cX3_copyFrom 56 = .ok (.aload_n 0, 1) := by decide +kernel
theorem dX3_copyFrom_57 : decode cX3_copyFrom 57 = .ok (.aload_n 1, 1) := by decide +kernel
theorem dX3_copyFrom_58 : decode cX3_copyFrom 58 = .ok (.getfield 37, 3) := by decide +kernel
theorem dX3_copyFrom_61 : decode cX3_copyFrom 61 = .ok (.putfield 37, 3) := by decide +kernel
theorem dX3_copyFrom_64 : decode cX3_copyFrom 64 = .ok (.aload_n 0, 1) := by decide +kernel
theorem dX3_copyFrom_65 : decode cX3_copyFrom 65 = .ok (.aload_n 1, 1) := by decide +kernel
theorem dX3_copyFrom_66 : decode cX3_copyFrom 66 = .ok (.getfield 43, 3) := by decide +kernel
theorem dX3_copyFrom_69 : decode cX3_copyFrom 69 = .ok (.putfield 43, 3) := by decide +kernel
theorem dX3_copyFrom_72 : decode cX3_copyFrom 72 = .ok (.aload_n 0, 1) := by decide +kernel
theorem dX3_copyFrom_73 : decode cX3_copyFrom 73 = .ok (.aload_n 1, 1) := by decide +kernel
theorem dX3_copyFrom_74 : decode cX3_copyFrom 74 = .ok (.getfield 46, 3) := by decide +kernel
theorem dX3_copyFrom_77 : decode cX3_copyFrom 77 = .ok (.putfield 46, 3) := by decide +kernel
theorem dX3_copyFrom_80 : decode cX3_copyFrom 80 = .ok (.aload_n 0, 1) := by decide +kernel
theorem dX3_copyFrom_81 : decode cX3_copyFrom 81 = .ok (.aload_n 1, 1) := by decide +kernel
theorem dX3_copyFrom_82 : decode cX3_copyFrom 82 = .ok (.getfield 49, 3) := by decide +kernel
theorem dX3_copyFrom_85 : decode cX3_copyFrom 85 = .ok (.putfield 49, 3) := by decide +kernel
theorem dX3_copyFrom_88 : decode cX3_copyFrom 88 = .ok (.aload_n 0, 1) := by decide +kernel
theorem dX3_copyFrom_89 : decode cX3_copyFrom 89 = .ok (.aload_n 1, 1) := by decide +kernel
theorem dX3_copyFrom_90 : decode cX3_copyFrom 90 = .ok (.getfield 52, 3) := by decide +kernel
theorem dX3_copyFrom_93 : decode cX3_copyFrom 93 = .ok (.putfield 52, 3) := by decide +kernel
theorem dX3_copyFrom_96 : decode cX3_copyFrom 96 = .ok (.return_, 1) := by decide +kernel
theorem dX3_told_0 : decode cX3_told 0 = .ok (.iload_n 1, 1) := by decide +kernel
theorem dX3_told_1 : decode cX3_told 1 = .ok (.tableswitch 104 0 8 #[51, 56, 69, 74, 79, 84, 89, 94, 99], 51) := by decide +kernel
theorem dX3_told_52 : decode cX3_told 52 = .ok (.aload_n 0, 1) := by decide +kernel
theorem dX3_told_53 : decode cX3_told 53 = .ok (.getfield 9, 3) := by decide +kernel
theorem dX3_told_56 : decode cX3_told 56 = .ok (.ireturn, 1) := by decide +kernel
theorem dX3_told_57 : decode cX3_told 57 = .ok (.aload_n 0, 1) := by decide +kernel
theorem dX3_told_58 : decode cX3_told 58 = .ok (.getfield 15, 3) := by decide +kernel
theorem dX3_told_61 : decode cX3_told 61 = .ok (.bipush 10, 2) := by decide +kernel
theorem dX3_told_63 : decode cX3_told 63 = .ok (.imul, 1) := by decide +kernel
theorem dX3_told_64 : decode cX3_told 64 = .ok (.aload_n 0, 1) := by decide +kernel
theorem dX3_told_65 : decode cX3_told 65 = .ok (.getfield 18, 3) := by decide +kernel
theorem dX3_told_68 : decode cX3_told 68 = .ok (.iadd, 1) := by decide +kernel
theorem dX3_told_69 : decode cX3_told 69 = .ok (.ireturn, 1) := by decide +kernel
theorem dX3_told_70 : decode cX3_told 70 = .ok (.aload_n 0, 1) := by decide +kernel
theorem dX3_told_71 : decode cX3_told 71 = .ok (.getfield 21, 3) := by decide +kernel
theorem dX3_told_74 : decode cX3_told 74 = .ok (.ireturn, 1) := by decide +kernel
theorem dX3_told_75 : decode cX3_told 75 = .ok (.aload_n 0, 1) := by decide +kernel
theorem dX3_told_76 : decode cX3_told 76 = .ok (.getfield 24, 3) := by decide +kernel
theorem dX3_told_79 : decode cX3_told 79 = .ok (.ireturn, 1) := by decide +kernel
theorem dX3_told_80 : decode cX3_told 80 = .ok (.aload_n 0, 1) := by decide +kernel
theorem dX3_told_81 : decode cX3_told 81 = .ok (.getfield 31, 3) := by decide +kernel
theorem dX3_told_84 : decode cX3_told 84 = .ok (.ireturn, 1) := by decide +kernel
theorem dX3_told_85 : decode cX3_told 85 = .ok (.aload_n 0, 1) := by decide +kernel
theorem dX3_told_86 : decode cX3_told 86 = .ok (.getfield 34, 3) := by decide +kernel
theorem dX3_told_89 : decode cX3_told 89 = .ok (.ireturn, 1) := by decide +kernel
theorem dX3_told_90 : decode cX3_told 90 = .ok (.aload_n 0, 1) := by decide +kernel
theorem dX3_told_91 : decode cX3_told 91 = .ok (.getfield 37, 3) := by decide +kernel
theorem dX3_told_94 : decode cX3_told 94 = .ok (.ireturn, 1) := by decide +kernel
theorem dX3_told_95 : decode cX3_told 95 = .ok (.aload_n 0, 1) := by decide +kernel
theorem dX3_told_96 : decode cX3_told 96 = .ok (.getfield 43, 3) := by decide +kernel
theorem dX3_told_99 : decode cX3_told 99 = .ok (.ireturn, 1) := by decide +kernel
theorem dX3_told_100 : decode cX3_told 100 = .ok (.aload_n 0, 1) := by decide +kernel
theorem dX3_told_101 : decode cX3_told 101 = .ok (.getfield 46, 3) := by decide +kernel
theorem dX3_told_104 : decode cX3_told 104 = .ok (.ireturn, 1) := by decide +kernel
theorem dX3_told_105 : decode cX3_told 105 = .ok (.iconst (-1), 1) := by decide +kernel
theorem dX3_told_106 : decode cX3_told 106 = .ok (.ireturn, 1) := by decide +kernel
theorem dX3_isOpen_0 : decode cX3_isOpen 0 = .ok (.aload_n 0, 1) := by decide +kernel
theorem dX3_isOpen_1 : decode cX3_isOpen 1 = .ok (.getfield 52, 3) := by decide +kernel
theorem dX3_isOpen_4 : decode cX3_isOpen 4 = .ok (.ifCond .eq 7, 3) := by decide +kernel
theorem dX3_isOpen_7 : decode cX3_isOpen 7 = .ok (.iconst 1, 1) := by decide +kernel
theorem dX3_isOpen_8 : decode cX3_isOpen 8 = .ok (.goto 4, 3) := by decide +kernel
theorem dX3_isOpen_11 : decode cX3_isOpen 11 = .ok (.iconst 0, 1) := by decide +kernel
theorem dX3_isOpen_12 : decode cX3_isOpen 12 = .ok (.ireturn, 1) := by decide +kernel
theorem dX3_thing_0 : decode cX3_thing 0 = .ok (.aload_n 0, 1) := by decide +kernel
theorem dX3_thing_1 : decode cX3_thing 1 = .ok (.getfield 24, 3) := by decide +kernel
theorem dX3_thing_4 : decode cX3_thing 4 = .ok (.ifCond .ne 10, 3) := by decide +kernel
theorem dX3_thing_7 : decode cX3_thing 7 = .ok (.aload_n 0, 1) := by decide +kernel
theorem dX3_thing_8 : decode cX3_thing 8 = .ok (.getfield 9, 3) := by decide +kernel
theorem dX3_thing_11 : decode cX3_thing 11 = .ok (.goto 5, 3) := by decide +kernel
theorem dX3_thing_14 : decode cX3_thing 14 = .ok (.bipush 6, 2) := by decide +kernel
theorem dX3_thing_16 : decode cX3_thing 16 = .ok (.ireturn, 1) := by decide +kernel
theorem dX3_suffer_0 : decode cX3_suffer 0 = .ok (.iload_n 1, 1) := by decide +kernel
theorem dX3_suffer_1 : decode cX3_suffer 1 = .ok (.ifCond .ne 11, 3) := by decide +kernel
theorem dX3_suffer_4 : decode cX3_suffer 4 = .ok (.aload_n 0, 1) := by decide +kernel
theorem dX3_suffer_5 : decode cX3_suffer 5 = .ok (.iconst 1, 1) := by decide +kernel
theorem dX3_suffer_6 : decode cX3_suffer 6 = .ok (.putfield 24, 3) := by decide +kernel
theorem dX3_suffer_9 : decode cX3_suffer 9 = .ok (.goto 40, 3) := by decide +kernel
theorem dX3_suffer_12 : decode cX3_suffer 12 = .ok (.iload_n 1, 1) := by decide +kernel
theorem dX3_suffer_13 : decode cX3_suffer 13 = .ok (.iconst 1, 1) := by decide +kernel
theorem dX3_suffer_14 : decode cX3_suffer 14 = .ok (.if_icmp .ne 24, 3) := by decide +kernel
theorem dX3_suffer_17 : decode cX3_suffer 17 = .ok (.aload_n 0, 1) := by decide +kernel
theorem dX3_suffer_18 : decode cX3_suffer 18 = .ok (.getfield 15, 3) := by decide +kernel
theorem dX3_suffer_21 : decode cX3_suffer 21 = .ok (.istore_n 2, 1) := by decide +kernel
theorem dX3_suffer_22 : decode cX3_suffer 22 = .ok (.aload_n 0, 1) := by decide +kernel
theorem dX3_suffer_23 : decode cX3_suffer 23 = .ok (.aload_n 0, 1) := by decide +kernel
theorem dX3_suffer_24 : decode cX3_suffer 24 = .ok (.getfield 18, 3) := by decide +kernel
theorem dX3_suffer_27 : decode cX3_suffer 27 = .ok (.putfield 15, 3) := by decide +kernel
theorem dX3_suffer_30 : decode cX3_suffer 30 = .ok (.aload_n 0, 1) := by decide +kernel
theorem dX3_suffer_31 : decode cX3_suffer 31 = .ok (.iload_n 2, 1) := by decide +kernel
theorem dX3_suffer_32 : decode cX3_suffer 32 = .ok (.putfield 18, 3) := by decide +kernel
theorem dX3_suffer_35 : decode cX3_suffer 35 = .ok (.goto 14, 3) := by decide +kernel
theorem dX3_suffer_38 : decode cX3_suffer 38 = .ok (.aload_n 0, 1) := by decide +kernel
theorem dX3_suffer_39 : decode cX3_suffer 39 = .ok (.bipush 10, 2) := by decide +kernel
theorem dX3_suffer_41 : decode cX3_suffer 41 = .ok (.aload_n 0, 1) := by decide +kernel
theorem dX3_suffer_42 : decode cX3_suffer 42 = .ok (.getfield 21, 3) := by decide +kernel
theorem dX3_suffer_45 : decode cX3_suffer 45 = .ok (.isub, 1) := by decide +kernel
theorem dX3_suffer_46 : decode cX3_suffer 46 = .ok (.putfield 21, 3) := by decide +kernel
theorem dX3_suffer_49 : decode cX3_suffer 49 = .ok (.return_, 1) := by decide +kernel
theorem dX4_init_0 : decode cX4_init 0 = .ok (.aload_n 0, 1) := by decide +kernel
theorem dX4_init_1 : decode cX4_init 1 = .ok (.invokespecial 3, 3) := by decide +kernel
theorem dX4_init_4 : decode cX4_init 4 = .ok (.aload_n 0, 1) := by decide +kernel
theorem dX4_init_5 : decode cX4_init 5 = .ok (.bipush 10, 2) := by decide +kernel
theorem dX4_init_7 : decode cX4_init 7 = .ok (.anewarray 9, 3) := by decide +kernel
theorem dX4_init_10 : decode cX4_init 10 = .ok (.putfield 11, 3) := by decide +kernel
theorem dX4_init_13 : decode cX4_init 13 = .ok (.aload_n 0, 1) := by decide +kernel
theorem dX4_init_14 : decode cX4_init 14 = .ok (.bipush 84, 2) := by decide +kernel
theorem dX4_init_16 : decode cX4_init 16 = .ok (.newarray .int, 2) := by decide +kernel
theorem dX4_init_18 : decode cX4_init 18 = .ok (.putfield 17, 3) := by decide +kernel
theorem dX4_init_21 : decode cX4_init 21 = .ok (.aload_n 0, 1) := by decide +kernel
theorem dX4_init_22 : decode cX4_init 22 = .ok (.bipush 6, 2) := by decide +kernel
theorem dX4_init_24 : decode cX4_init 24 = .ok (.newarray .int, 2) := by decide +kernel
theorem dX4_init_26 : decode cX4_init 26 = .ok (.putfield 21, 3) := by decide +kernel
theorem dX4_init_29 : decode cX4_init 29 = .ok (.aload_n 0, 1) := by decide +kernel
theorem dX4_init_30 : decode cX4_init 30 = .ok (.bipush 6, 2) := by decide +kernel
theorem dX4_init_32 : decode cX4_init 32 = .ok (.newarray .int, 2) := by decide +kernel
theorem dX4_init_34 : decode cX4_init 34 = .ok (.putfield 24, 3) := by decide +kernel
theorem dX4_init_37 : decode cX4_init 37 = .ok (.aload_n 0, 1) := by decide +kernel
theorem dX4_init_38 : decode cX4_init 38 = .ok (.iconst 5, 1) := by decide +kernel
theorem dX4_init_39 : decode cX4_init 39 = .ok (.newarray .int, 2) := by decide +kernel
theorem dX4_init_41 : decode cX4_init 41 = .ok (.dup, 1) := by decide +kernel
theorem dX4_init_42 : decode cX4_init 42 = .ok (.iconst 0, 1) := by decide +kernel
theorem dX4_init_43 : decode cX4_init 43 = .ok (.iconst (-1), 1) := by decide +kernel
theorem dX4_init_44 : decode cX4_init 44 = .ok (.iastore, 1) := by decide +kernel
theorem dX4_init_45 : decode cX4_init 45 = .ok (.dup, 1) := by decide +kernel
theorem dX4_init_46 : decode cX4_init 46 = .ok (.iconst 1, 1) := by decide +kernel
theorem dX4_init_47 : decode cX4_init 47 = .ok (.iconst (-1), 1) := by decide +kernel
theorem dX4_init_48 : decode cX4_init 48 = .ok (.iastore, 1) := by decide +kernel
theorem dX4_init_49 : decode cX4_init 49 = .ok (.dup, 1) := by decide +kernel
theorem dX4_init_50 : decode cX4_init 50 = .ok (.iconst 2, 1) := by decide +kernel
theorem dX4_init_51 : decode cX4_init 51 = .ok (.iconst (-1), 1) := by decide +kernel
theorem dX4_init_52 : decode cX4_init 52 = .ok (.iastore, 1) := by decide +kernel
theorem dX4_init_53 : decode cX4_init 53 = .ok (.dup, 1) := by decide +kernel
theorem dX4_init_54 : decode cX4_init 54 = .ok (.iconst 3, 1) := by decide +kernel
theorem dX4_init_55 : decode cX4_init 55 = .ok (.iconst (-1), 1) := by decide +kernel
theorem dX4_init_56 : decode cX4_init 56 = .ok (.iastore, 1) := by decide +kernel
theorem dX4_init_57 : decode cX4_init 57 = .ok (.dup, 1) := by decide +kernel
theorem dX4_init_58 : decode cX4_init 58 = .ok (.iconst 4, 1) := by decide +kernel
theorem dX4_init_59 : decode cX4_init 59 = .ok (.iconst (-1), 1) := by decide +kernel
theorem dX4_init_60 : decode cX4_init 60 = .ok (.iastore, 1) := by decide +kernel
theorem dX4_init_61 : decode cX4_init 61 = .ok (.putfield 27, 3) := by decide +kernel
theorem dX4_init_64 : decode cX4_init 64 = .ok (.aload_n 0, 1) := by decide +kernel
theorem dX4_init_65 : decode cX4_init 65 = .ok (.new 30, 3) := by decide +kernel
theorem dX4_init_68 : decode cX4_init 68 = .ok (.dup, 1) := by decide +kernel
theorem dX4_init_69 : decode cX4_init 69 = .ok (.invokespecial 32, 3) := by decide +kernel
theorem dX4_init_72 : decode cX4_init 72 = .ok (.putfield 33, 3) := by decide +kernel
theorem dX4_init_75 : decode cX4_init 75 = .ok (.aload_n 0, 1) := by decide +kernel
theorem dX4_init_76 : decode cX4_init 76 = .ok (.bipush 10, 2) := by decide +kernel
theorem dX4_init_78 : decode cX4_init 78 = .ok (.putfield 37, 3) := by decide +kernel
theorem dX4_init_81 : decode cX4_init 81 = .ok (.iconst 0, 1) := by decide +kernel
theorem dX4_init_82 : decode cX4_init 82 = .ok (.istore_n 1, 1) := by decide +kernel
theorem dX4_init_83 : decode cX4_init 83 = .ok (.iload_n 1, 1) := by decide +kernel
theorem dX4_init_84 : decode cX4_init 84 = .ok (.bipush 10, 2) := by decide +kernel
theorem dX4_init_86 : decode cX4_init 86 = .ok (.if_icmp .ge 22, 3) := by decide +kernel
theorem dX4_init_89 : decode cX4_init 89 = .ok (.aload_n 0, 1) := by decide +kernel
theorem dX4_init_90 : decode cX4_init 90 = .ok (.getfield 11, 3) := by decide +kernel
theorem dX4_init_93 : decode cX4_init 93 = .ok (.iload_n 1, 1) := by decide +kernel
theorem dX4_init_94 : decode cX4_init 94 = .ok (.new 9, 3) := by decide +kernel
theorem dX4_init_97 : decode cX4_init 97 = .ok (.dup, 1) := by decide +kernel
theorem dX4_init_98 : decode cX4_init 98 = .ok (.invokespecial 41, 3) := by decide +kernel
theorem dX4_init_101 : decode cX4_init 101 = .ok (.aastore, 1) := by decide +kernel
theorem dX4_init_102 : decode cX4_init 102 = .ok (.iinc 1 1, 3) := by decide +kernel
theorem dX4_init_105 : decode cX4_init 105 = .ok (.goto (-22), 3) := by decide +kernel
theorem dX4_init_108 : decode cX4_init 108 = .ok (.return_, 1) := by decide +kernel
theorem dX4_copyFrom_0 : decode cX4_copyFrom 0 = .ok (.aload_n 0, 1) := by decide +kernel
theorem dX4_copyFrom_1 : decode cX4_copyFrom 1 = .ok (.aload_n 1, 1) := by decide +kernel
theorem dX4_copyFrom_2 : decode cX4_copyFrom 2 = .ok (.invokevirtual 42, 3) := by decide +kernel
theorem dX4_copyFrom_5 : decode cX4_copyFrom 5 = .ok (.aload_n 1, 1) := by decide +kernel
theorem dX4_copyFrom_6 : decode cX4_copyFrom 6 = .ok (.getfield 17, 3) := by decide +kernel
theorem dX4_copyFrom_9 : decode cX4_copyFrom 9 = .ok (.iconst 0, 1) := by decide +kernel
theorem dX4_copyFrom_10 : decode cX4_copyFrom 10 = .ok (.aload_n 0, 1) := by decide +kernel
theorem dX4_copyFrom_11 : decode cX4_copyFrom 11 = .ok (.getfield 17, 3) := by decide +kernel
theorem dX4_copyFrom_14 : decode cX4_copyFrom 14 = .ok (.iconst 0, 1) := by decide +kernel
theorem dX4_copyFrom_15 : decode cX4_copyFrom 15 = .ok (.bipush 84, 2) := by decide +kernel
theorem dX4_copyFrom_17 : decode cX4_copyFrom 17 = .ok (.invokestatic 46, 3) := by decide +kernel
theorem dX4_copyFrom_20 : decode cX4_copyFrom 20 = .ok (.aload_n 1, 1) := by decide +kernel
theorem dX4_copyFrom_21 : decode cX4_copyFrom 21 = .ok (.getfield 21, 3) := by decide +kernel
theorem dX4_copyFrom_24 : decode cX4_copyFrom 24 = .ok (.iconst 0, 1) := by decide +kernel
theorem dX4_copyFrom_25 : decode cX4_copyFrom 25 = .ok (.aload_n 0, 1) := by decide +kernel
theorem dX4_copyFrom_26 : decode cX4_copyFrom 26 = .ok (.getfield 21, 3) := by decide +kernel
theorem dX4_copyFrom_29 : decode cX4_copyFrom 29 = .ok (.iconst 0, 1) := by decide +kernel
theorem dX4_copyFrom_30 : decode cX4_copyFrom 30 = .ok (.bipush 6, 2) := by decide +kernel
theorem dX4_copyFrom_32 : decode cX4_copyFrom 32 = .ok (.invokestatic 46, 3) := by decide +kernel
theorem dX4_copyFrom_35 : decode cX4_copyFrom 35 = .ok (.aload_n 1, 1) := by decide +kernel
theorem dX4_copyFrom_36 : decode cX4_copyFrom 36 = .ok (.getfield 24, 3) := by decide +kernel
theorem dX4_copyFrom_39 : decode cX4_copyFrom 39 = .ok (.iconst 0, 1) := by decide +kernel
theorem dX4_copyFrom_40 : decode cX4_copyFrom 40 = .ok (.aload_n 0, 1) := by decide +kernel
theorem dX4_copyFrom_41 : decode cX4_copyFrom 41 = .ok (.getfield 24, 3) := by decide +kernel
theorem dX4_copyFrom_44 : decode cX4_copyFrom 44 = .ok (.iconst 0, 1) := by decide +kernel
theorem dX4_copyFrom_45 : decode cX4_copyFrom 45 = .ok (.bipush 6, 2) := by decide +kernel
theorem dX4_copyFrom_47 : decode cX4_copyFrom 47 = .ok (.invokestatic 46, 3) := by decide +kernel
theorem dX4_copyFrom_50 : decode cX4_copyFrom 50 = .ok (.aload_n 1, 1) := by decide +kernel
theorem dX4_copyFrom_51 : decode cX4_copyFrom 51 = .ok (.getfield 27, 3) := by decide +kernel
theorem dX4_copyFrom_54 : decode cX4_copyFrom 54 = .ok (.iconst 0, 1) := by decide +kernel
theorem dX4_copyFrom_55 : decode cX4_copyFrom 55 = .ok (.aload_n 0, 1) := by decide +kernel
theorem dX4_copyFrom_56 : decode cX4_copyFrom 56 = .ok (.getfield 27, 3) := by decide +kernel
theorem dX4_copyFrom_59 : decode cX4_copyFrom 59 = .ok (.iconst 0, 1) := by decide +kernel
theorem dX4_copyFrom_60 : decode cX4_copyFrom 60 = .ok (.iconst 5, 1) := by decide +kernel
theorem dX4_copyFrom_61 : decode cX4_copyFrom 61 = .ok (.invokestatic 46, 3) := by decide +kernel
theorem dX4_copyFrom_64 : decode cX4_copyFrom 64 = .ok (.aload_n 0, 1) := by decide +kernel
theorem dX4_copyFrom_65 : decode cX4_copyFrom 65 = .ok (.getfield 33, 3) := by decide +kernel
theorem dX4_copyFrom_68 : decode cX4_copyFrom 68 = .ok (.aload_n 1, 1) := by decide +kernel
theorem dX4_copyFrom_69 : decode cX4_copyFrom 69 = .ok (.getfield 33, 3) := by decide +kernel
theorem dX4_copyFrom_72 : decode cX4_copyFrom 72 = .ok (.invokevirtual 52, 3) := by decide +kernel
theorem dX4_copyFrom_75 : decode cX4_copyFrom 75 = .ok (.aload_n 0, 1) := by decide +kernel
theorem dX4_copyFrom_76 : decode cX4_copyFrom 76 = .ok (.aload_n 1, 1) := by decide +kernel
theorem dX4_copyFrom_77 : decode cX4_copyFrom 77 = .ok (.getfield 56, 3) := by decide +kernel
theorem dX4_copyFrom_80 : decode cX4_copyFrom 80 = .ok (.putfield 56, 3) := by decide +kernel
theorem dX4_copyFrom_83 : decode cX4_copyFrom 83 = .ok (.aload_n 0, 1) := by decide +kernel
theorem dX4_copyFrom_84 : decode cX4_copyFrom 84 = .ok (.aload_n 1, 1) := by decide +kernel
theorem dX4_copyFrom_85 : decode cX4_copyFrom 85 = .ok (.getfield 59, 3) := by decide +kernel
theorem dX4_copyFrom_88 : decode cX4_copyFrom 88 = .ok (.putfield 59, 3) := by decide +kernel
theorem dX4_copyFrom_91 : decode cX4_copyFrom 91 = .ok (.aload_n 0, 1) := by decide +kernel
theorem dX4_copyFrom_92 : decode cX4_copyFrom 92 = .ok (.aload_n 1, 1) := by decide +kernel
theorem dX4_copyFrom_93 : decode cX4_copyFrom 93 = .ok (.getfield 62, 3) := by decide +kernel
theorem dX4_copyFrom_96 : decode cX4_copyFrom 96 = .ok (.putfield 62, 3) := by decide +kernel
theorem dX4_copyFrom_99 : decode cX4_copyFrom 99 = .ok (.aload_n 0, 1) := by decide +kernel
theorem dX4_copyFrom_100 : decode cX4_copyFrom 100 = .ok (.aload_n 1, 1) := by decide +kernel
theorem dX4_copyFrom_101 : decode cX4_copyFrom 101 = .ok (.getfield 37, 3) := by decide +kernel
theorem dX4_copyFrom_104 : decode cX4_copyFrom 104 = .ok (.putfield 37, 3) := by decide +kernel
theorem dX4_copyFrom_107 : decode cX4_copyFrom 107 = .ok (.return_, 1) := by decide +kernel
theorem dX4_copyParts_0 : decode cX4_copyParts 0 = .ok (.aload_n 0, 1) := by decide +kernel
theorem dX4_copyParts_1 : decode cX4_copyParts 1 = .ok (.aload_n 1, 1) := by decide +kernel
theorem dX4_copyParts_2 : decode cX4_copyParts 2 = .ok (.getfield 65, 3) := by decide +kernel
theorem dX4_copyParts_5 : decode cX4_copyParts 5 = .ok (.putfield 65, 3) := by decide +kernel
theorem dX4_copyParts_8 : decode cX4_copyParts 8 = .ok (.iconst 0, 1) := by decide +kernel
theorem dX4_copyParts_9 : decode cX4_copyParts 9 = .ok (.istore_n 2, 1) := by decide +kernel
theorem dX4_copyParts_10 : decode cX4_copyParts 10 = .ok (.iload_n 2, 1) := by decide +kernel
theorem dX4_copyParts_11 : decode cX4_copyParts 11 = .ok (.aload_n 0, 1) := by decide +kernel
theorem dX4_copyParts_12 : decode cX4_copyParts 12 = .ok (.getfield 65, 3) := by decide +kernel
theorem dX4_copyParts_15 : decode cX4_copyParts 15 = .ok (.if_icmp .ge 24, 3) := by decide +kernel
theorem dX4_copyParts_18 : decode cX4_copyParts 18 = .ok (.aload_n 0, 1) := by decide +kernel
theorem dX4_copyParts_19 : decode cX4_copyParts 19 = .ok (.getfield 11, 3) := by decide +kernel
theorem dX4_copyParts_22 : decode cX4_copyParts 22 = .ok (.iload_n 2, 1) := by decide +kernel
theorem dX4_copyParts_23 : decode cX4_copyParts 23 = .ok (.aaload, 1) := by decide +kernel
theorem dX4_copyParts_24 : decode cX4_copyParts 24 = .ok (.aload_n 1, 1) := by decide +kernel
theorem dX4_copyParts_25 : decode cX4_copyParts 25 = .ok (.getfield 11, 3) := by decide +kernel
theorem dX4_copyParts_28 : decode cX4_copyParts 28 = .ok (.iload_n 2, 1) := by decide +kernel
theorem dX4_copyParts_29 : decode cX4_copyParts 29 = .ok (.aaload, 1) := by decide +kernel
theorem dX4_copyParts_30 : decode cX4_copyParts 30 = .ok (.invokevirtual 68, 3) := by decide +kernel
theorem dX4_copyParts_33 : decode cX4_copyParts 33 = .ok (.iinc 2 1, 3) := by decide +kernel
theorem dX4_copyParts_36 : decode cX4_copyParts 36 = .ok (.goto (-26), 3) := by decide +kernel
theorem dX4_copyParts_39 : decode cX4_copyParts 39 = .ok (.return_, 1) := by decide +kernel
theorem dX4_hasPart_0 : decode cX4_hasPart 0 = .ok (.iload_n 1, 1) := by decide +kernel
theorem dX4_hasPart_1 : decode cX4_hasPart 1 = .ok (.iconst 0, 1) := by decide +kernel
theorem dX4_hasPart_2 : decode cX4_hasPart 2 = .ok (.aload_n 0, 1) := by decide +kernel
theorem dX4_hasPart_3 : decode cX4_hasPart 3 = .ok (.getfield 65, 3) := by decide +kernel
theorem dX4_hasPart_6 : decode cX4_hasPart 6 = .ok (.iconst 1, 1) := by decide +kernel
theorem dX4_hasPart_7 : decode cX4_hasPart 7 = .ok (.isub, 1) := by decide +kernel
theorem dX4_hasPart_8 : decode cX4_hasPart 8 = .ok (.invokestatic 71, 3) := by decide +kernel
theorem dX4_hasPart_11 : decode cX4_hasPart 11 = .ok (.ireturn, 1) := by decide +kernel
theorem dX4_isLaw_0 : decode cX4_isLaw 0 = .ok (.iload_n 1, 1) := by decide +kernel
theorem dX4_isLaw_1 : decode cX4_isLaw 1 = .ok (.ifCond .lt 29, 3) := by decide +kernel
theorem dX4_isLaw_4 : decode cX4_isLaw 4 = .ok (.iload_n 1, 1) := by decide +kernel
theorem dX4_isLaw_5 : decode cX4_isLaw 5 = .ok (.bipush 100, 2) := by decide +kernel
theorem dX4_isLaw_7 : decode cX4_isLaw 7 = .ok (.idiv, 1) := by decide +kernel
theorem dX4_isLaw_8 : decode cX4_isLaw 8 = .ok (.aload_n 0, 1) := by decide +kernel
theorem dX4_isLaw_9 : decode cX4_isLaw 9 = .ok (.getfield 56, 3) := by decide +kernel
theorem dX4_isLaw_12 : decode cX4_isLaw 12 = .ok (.if_icmp .ge 18, 3) := by decide +kernel
theorem dX4_isLaw_15 : decode cX4_isLaw 15 = .ok (.iload_n 1, 1) := by decide +kernel
theorem dX4_isLaw_16 : decode cX4_isLaw 16 = .ok (.bipush 10, 2) := by decide +kernel
theorem dX4_isLaw_18 : decode cX4_isLaw 18 = .ok (.idiv, 1) := by decide +kernel
theorem dX4_isLaw_19 : decode cX4_isLaw 19 = .ok (.bipush 10, 2) := by decide +kernel
theorem dX4_isLaw_21 : decode cX4_isLaw 21 = .ok (.irem, 1) := by decide +kernel
theorem dX4_isLaw_22 : decode cX4_isLaw 22 = .ok (.iconst 5, 1) := by decide +kernel
theorem dX4_isLaw_23 : decode cX4_isLaw 23 = .ok (.if_icmp .gt 7, 3) := by decide +kernel
theorem dX4_isLaw_26 : decode cX4_isLaw 26 = .ok (.iconst 1, 1) := by decide +kernel
theorem dX4_isLaw_27 : decode cX4_isLaw 27 = .ok (.goto 4, 3) := by decide +kernel
theorem dX4_isLaw_30 : decode cX4_isLaw 30 = .ok (.iconst 0, 1) := by decide +kernel
