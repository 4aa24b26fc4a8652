theorem dX0_init_0 : decode cX0_init 0 = .ok (.aload_n 0, 1) := by decide +kernel
theorem dX0_init_1 : decode cX0_init 1 = .ok (.invokespecial 3, 3) := by decide +kernel
theorem dX0_init_4 : decode cX0_init 4 = .ok (.aload_n 0, 1) := by decide +kernel
theorem dX0_init_5 : decode cX0_init 5 = .ok (.bipush 30, 2) := by decide +kernel
theorem dX0_init_7 : decode cX0_init 7 = .ok (.newarray .int, 2) := by decide +kernel
theorem dX0_init_9 : decode cX0_init 9 = .ok (.putfield 9, 3) := by decide +kernel
theorem dX0_init_12 : decode cX0_init 12 = .ok (.return_, 1) := by decide +kernel
theorem dX0_answer_0 : decode cX0_answer 0 = .ok (.aload_n 0, 1) := by decide +kernel
theorem dX0_answer_1 : decode cX0_answer 1 = .ok (.aload_n 1, 1) := by decide +kernel
theorem dX0_answer_2 : decode cX0_answer 2 = .ok (.invokevirtual 15, 3) := by decide +kernel
theorem dX0_answer_5 : decode cX0_answer 5 = .ok (.putfield 21, 3) := by decide +kernel
theorem dX0_answer_8 : decode cX0_answer 8 = .ok (.aload_n 0, 1) := by decide +kernel
theorem dX0_answer_9 : decode cX0_answer 9 = .ok (.iload_n 2, 1) := by decide +kernel
theorem dX0_answer_10 : decode cX0_answer 10 = .ok (.putfield 25, 3) := by decide +kernel
theorem dX0_answer_13 : decode cX0_answer 13 = .ok (.aload_n 0, 1) := by decide +kernel
theorem dX0_answer_14 : decode cX0_answer 14 = .ok (.aload_n 1, 1) := by decide +kernel
theorem dX0_answer_15 : decode cX0_answer 15 = .ok (.getfield 28, 3) := by decide +kernel
theorem dX0_answer_18 : decode cX0_answer 18 = .ok (.putfield 31, 3) := by decide +kernel
theorem dX0_answer_21 : decode cX0_answer 21 = .ok (.aload_n 0, 1) := by decide +kernel
theorem dX0_answer_22 : decode cX0_answer 22 = .ok (.iconst 0, 1) := by decide +kernel
theorem dX0_answer_23 : decode cX0_answer 23 = .ok (.putfield 32, 3) := by decide +kernel
theorem dX0_answer_26 : decode cX0_answer 26 = .ok (.aload_n 0, 1) := by decide +kernel
theorem dX0_answer_27 : decode cX0_answer 27 = .ok (.aload_n 0, 1) := by decide +kernel
theorem dX0_answer_28 : decode cX0_answer 28 = .ok (.getfield 21, 3) := by decide +kernel
theorem dX0_answer_31 : decode cX0_answer 31 = .ok (.iload_n 3, 1) := by decide +kernel
theorem dX0_answer_32 : decode cX0_answer 32 = .ok (.iload 4, 2) := by decide +kernel
theorem dX0_answer_34 : decode cX0_answer 34 = .ok (.iconst 0, 1) := by decide +kernel
theorem dX0_answer_35 : decode cX0_answer 35 = .ok (.invokevirtual 36, 3) := by decide +kernel
theorem dX0_answer_38 : decode cX0_answer 38 = .ok (.istore 5, 2) := by decide +kernel
theorem dX0_answer_40 : decode cX0_answer 40 = .ok (.aload_n 0, 1) := by decide +kernel
theorem dX0_answer_41 : decode cX0_answer 41 = .ok (.getfield 32, 3) := by decide +kernel
theorem dX0_answer_44 : decode cX0_answer 44 = .ok (.ifCond .eq 8, 3) := by decide +kernel
theorem dX0_answer_47 : decode cX0_answer 47 = .ok (.bipush (-15), 2) := by decide +kernel
theorem dX0_answer_49 : decode cX0_answer 49 = .ok (.goto 5, 3) := by decide +kernel
theorem dX0_answer_52 : decode cX0_answer 52 = .ok (.iload 5, 2) := by decide +kernel
theorem dX0_answer_54 : decode cX0_answer 54 = .ok (.ireturn, 1) := by decide +kernel
theorem dX0_isUnder_0 : decode cX0_isUnder 0 = .ok (.iload_n 1, 1) := by decide +kernel
theorem dX0_isUnder_1 : decode cX0_isUnder 1 = .ok (.istore_n 3, 1) := by decide +kernel
theorem dX0_isUnder_2 : decode cX0_isUnder 2 = .ok (.iconst 0, 1) := by decide +kernel
theorem dX0_isUnder_3 : decode cX0_isUnder 3 = .ok (.istore 4, 2) := by decide +kernel
theorem dX0_isUnder_5 : decode cX0_isUnder 5 = .ok (.iload 4, 2) := by decide +kernel
theorem dX0_isUnder_7 : decode cX0_isUnder 7 = .ok (.bipush 6, 2) := by decide +kernel
theorem dX0_isUnder_9 : decode cX0_isUnder 9 = .ok (.if_icmp .gt 26, 3) := by decide +kernel
theorem dX0_isUnder_12 : decode cX0_isUnder 12 = .ok (.iload_n 3, 1) := by decide +kernel
theorem dX0_isUnder_13 : decode cX0_isUnder 13 = .ok (.ifCond .lt 22, 3) := by decide +kernel
theorem dX0_isUnder_16 : decode cX0_isUnder 16 = .ok (.iload_n 3, 1) := by decide +kernel
theorem dX0_isUnder_17 : decode cX0_isUnder 17 = .ok (.iload_n 2, 1) := by decide +kernel
theorem dX0_isUnder_18 : decode cX0_isUnder 18 = .ok (.if_icmp .ne 5, 3) := by decide +kernel
theorem dX0_isUnder_21 : decode cX0_isUnder 21 = .ok (.iconst 1, 1) := by decide +kernel
theorem dX0_isUnder_22 : decode cX0_isUnder 22 = .ok (.ireturn, 1) := by decide +kernel
theorem dX0_isUnder_23 : decode cX0_isUnder 23 = .ok (.getstatic 40, 3) := by decide +kernel
theorem dX0_isUnder_26 : decode cX0_isUnder 26 = .ok (.iload_n 3, 1) := by decide +kernel
theorem dX0_isUnder_27 : decode cX0_isUnder 27 = .ok (.iaload, 1) := by decide +kernel
theorem dX0_isUnder_28 : decode cX0_isUnder 28 = .ok (.istore_n 3, 1) := by decide +kernel
theorem dX0_isUnder_29 : decode cX0_isUnder 29 = .ok (.iinc 4 1, 3) := by decide +kernel
theorem dX0_isUnder_32 : decode cX0_isUnder 32 = .ok (.goto (-27), 3) := by decide +kernel
theorem dX0_isUnder_35 : decode cX0_isUnder 35 = .ok (.iconst 0, 1) := by decide +kernel
theorem dX0_isUnder_36 : decode cX0_isUnder 36 = .ok (.ireturn, 1) := by decide +kernel
theorem dX0_run_0 : decode cX0_run 0 = .ok (.iload_n 1, 1) := by decide +kernel
theorem dX0_run_1 : decode cX0_run 1 = .ok (.istore 5, 2) := by decide +kernel
theorem dX0_run_3 : decode cX0_run 3 = .ok (.iconst 0, 1) := by decide +kernel
theorem dX0_run_4 : decode cX0_run 4 = .ok (.istore 6, 2) := by decide +kernel
theorem dX0_run_6 : decode cX0_run 6 = .ok (.iload 6, 2) := by decide +kernel
theorem dX0_run_8 : decode cX0_run 8 = .ok (.bipush 6, 2) := by decide +kernel
theorem dX0_run_10 : decode cX0_run 10 = .ok (.if_icmp .gt 35, 3) := by decide +kernel
theorem dX0_run_13 : decode cX0_run 13 = .ok (.iload 5, 2) := by decide +kernel
theorem dX0_run_15 : decode cX0_run 15 = .ok (.ifCond .le 30, 3) := by decide +kernel
theorem dX0_run_18 : decode cX0_run 18 = .ok (.getstatic 43, 3) := by decide +kernel
theorem dX0_run_21 : decode cX0_run 21 = .ok (.iload 5, 2) := by decide +kernel
theorem dX0_run_23 : decode cX0_run 23 = .ok (.iconst 4, 1) := by decide +kernel
theorem dX0_run_24 : decode cX0_run 24 = .ok (.imul, 1) := by decide +kernel
theorem dX0_run_25 : decode cX0_run 25 = .ok (.iload_n 2, 1) := by decide +kernel
theorem dX0_run_26 : decode cX0_run 26 = .ok (.iadd, 1) := by decide +kernel
theorem dX0_run_27 : decode cX0_run 27 = .ok (.iaload, 1) := by decide +kernel
theorem dX0_run_28 : decode cX0_run 28 = .ok (.ifCond .ne 17, 3) := by decide +kernel
theorem dX0_run_31 : decode cX0_run 31 = .ok (.getstatic 40, 3) := by decide +kernel
theorem dX0_run_34 : decode cX0_run 34 = .ok (.iload 5, 2) := by decide +kernel
theorem dX0_run_36 : decode cX0_run 36 = .ok (.iaload, 1) := by decide +kernel
theorem dX0_run_37 : decode cX0_run 37 = .ok (.istore 5, 2) := by decide +kernel
theorem dX0_run_39 : decode cX0_run 39 = .ok (.iinc 6 1, 3) := by decide +kernel
theorem dX0_run_42 : decode cX0_run 42 = .ok (.goto (-36), 3) := by decide +kernel
theorem dX0_run_45 : decode cX0_run 45 = .ok (.aload_n 0, 1) := by decide +kernel
theorem dX0_run_46 : decode cX0_run 46 = .ok (.getfield 32, 3) := by decide +kernel
theorem dX0_run_49 : decode cX0_run 49 = .ok (.ifCond .ne 15, 3) := by decide +kernel
theorem dX0_run_52 : decode cX0_run 52 = .ok (.iload 5, 2) := by decide +kernel
theorem dX0_run_54 : decode cX0_run 54 = .ok (.ifCond .lt 10, 3) := by decide +kernel
theorem dX0_run_57 : decode cX0_run 57 = .ok (.iload 4, 2) := by decide +kernel
theorem dX0_run_59 : decode cX0_run 59 = .ok (.bipush 40, 2) := by decide +kernel
theorem dX0_run_61 : decode cX0_run 61 = .ok (.if_icmp .lt 5, 3) := by decide +kernel
theorem dX0_run_64 : decode cX0_run 64 = .ok (.iconst 0, 1) := by decide +kernel
theorem dX0_run_65 : decode cX0_run 65 = .ok (.ireturn, 1) := by decide +kernel
theorem dX0_run_66 : decode cX0_run 66 = .ok (.getstatic 43, 3) := by decide +kernel
theorem dX0_run_69 : decode cX0_run 69 = .ok (.iload 5, 2) := by decide +kernel
theorem dX0_run_71 : decode cX0_run 71 = .ok (.iconst 4, 1) := by decide +kernel
theorem dX0_run_72 : decode cX0_run 72 = .ok (.imul, 1) := by decide +kernel
theorem dX0_run_73 : decode cX0_run 73 = .ok (.iload_n 2, 1) := by decide +kernel
theorem dX0_run_74 : decode cX0_run 74 = .ok (.iadd, 1) := by decide +kernel
theorem dX0_run_75 : decode cX0_run 75 = .ok (.iaload, 1) := by decide +kernel
theorem dX0_run_76 : decode cX0_run 76 = .ok (.istore 6, 2) := by decide +kernel
theorem dX0_run_78 : decode cX0_run 78 = .ok (.getstatic 40, 3) := by decide +kernel
theorem dX0_run_81 : decode cX0_run 81 = .ok (.iload 5, 2) := by decide +kernel
theorem dX0_run_83 : decode cX0_run 83 = .ok (.iaload, 1) := by decide +kernel
theorem dX0_run_84 : decode cX0_run 84 = .ok (.istore 7, 2) := by decide +kernel
theorem dX0_run_86 : decode cX0_run 86 = .ok (.iload 4, 2) := by decide +kernel
theorem dX0_run_88 : decode cX0_run 88 = .ok (.iconst 1, 1) := by decide +kernel
theorem dX0_run_89 : decode cX0_run 89 = .ok (.iadd, 1) := by decide +kernel
theorem dX0_run_90 : decode cX0_run 90 = .ok (.istore 8, 2) := by decide +kernel
theorem dX0_run_92 : decode cX0_run 92 = .ok (.aload_n 0, 1) := by decide +kernel
theorem dX0_run_93 : decode cX0_run 93 = .ok (.iload 6, 2) := by decide +kernel
theorem dX0_run_95 : decode cX0_run 95 = .ok (.invokevirtual 46, 3) := by decide +kernel
theorem dX0_run_98 : decode cX0_run 98 = .ok (.iload 6, 2) := by decide +kernel
theorem dX0_run_100 : decode cX0_run 100 = .ok (.lookupswitch 289 #[(10, 108), (11, 115), (12, 130), (13, 136), (20, 154), (30, 167), (31, 191), (40, 204), (41, 220), (50, 233), (60, 246), (70, 275)], 108) := by decide +kernel
theorem dX0_run_208 : decode cX0_run 208 = .ok (.iload_n 3, 1) := by decide +kernel
theorem dX0_run_209 : decode cX0_run 209 = .ok (.aload_n 0, 1) := by decide +kernel
theorem dX0_run_210 : decode cX0_run 210 = .ok (.getfield 31, 3) := by decide +kernel
theorem dX0_run_213 : decode cX0_run 213 = .ok (.iadd, 1) := by decide +kernel
theorem dX0_run_214 : decode cX0_run 214 = .ok (.ireturn, 1) := by decide +kernel
theorem dX0_run_215 : decode cX0_run 215 = .ok (.aload_n 0, 1) := by decide +kernel
theorem dX0_run_216 : decode cX0_run 216 = .ok (.aload_n 0, 1) := by decide +kernel
theorem dX0_run_217 : decode cX0_run 217 = .ok (.getfield 21, 3) := by decide +kernel
theorem dX0_run_220 : decode cX0_run 220 = .ok (.iconst 0, 1) := by decide +kernel
theorem dX0_run_221 : decode cX0_run 221 = .ok (.iload_n 3, 1) := by decide +kernel
theorem dX0_run_222 : decode cX0_run 222 = .ok (.iload 8, 2) := by decide +kernel
theorem dX0_run_224 : decode cX0_run 224 = .ok (.invokevirtual 36, 3) := by decide +kernel
theorem dX0_run_227 : decode cX0_run 227 = .ok (.iconst 2, 1) := by decide +kernel
theorem dX0_run_228 : decode cX0_run 228 = .ok (.imul, 1) := by decide +kernel
theorem dX0_run_229 : decode cX0_run 229 = .ok (.ireturn, 1) := by decide +kernel
theorem dX0_run_230 : decode cX0_run 230 = .ok (.aload_n 0, 1) := by decide +kernel
theorem dX0_run_231 : decode cX0_run 231 = .ok (.iload_n 3, 1) := by decide +kernel
theorem dX0_run_232 : decode cX0_run 232 = .ok (.invokevirtual 50, 3) := by decide +kernel
theorem dX0_run_235 : decode cX0_run 235 = .ok (.ireturn, 1) := by decide +kernel
theorem dX0_run_236 : decode cX0_run 236 = .ok (.aload_n 0, 1) := by decide +kernel
theorem dX0_run_237 : decode cX0_run 237 = .ok (.aload_n 0, 1) := by decide +kernel
theorem dX0_run_238 : decode cX0_run 238 = .ok (.getfield 21, 3) := by decide +kernel
theorem dX0_run_241 : decode cX0_run 241 = .ok (.iconst 1, 1) := by decide +kernel
theorem dX0_run_242 : decode cX0_run 242 = .ok (.iload_n 3, 1) := by decide +kernel
theorem dX0_run_243 : decode cX0_run 243 = .ok (.iload 8, 2) := by decide +kernel
theorem dX0_run_245 : decode cX0_run 245 = .ok (.invokevirtual 36, 3) := by decide +kernel
theorem dX0_run_248 : decode cX0_run 248 = .ok (.aload_n 0, 1) := by decide +kernel
theorem dX0_run_249 : decode cX0_run 249 = .ok (.getfield 25, 3) := by decide +kernel
theorem dX0_run_252 : decode cX0_run 252 = .ok (.ixor, 1) := by decide +kernel
theorem dX0_run_253 : decode cX0_run 253 = .ok (.ireturn, 1) := by decide +kernel
theorem dX0_run_254 : decode cX0_run 254 = .ok (.aload_n 0, 1) := by decide +kernel
theorem dX0_run_255 : decode cX0_run 255 = .ok (.iload 7, 2) := by decide +kernel
theorem dX0_run_257 : decode cX0_run 257 = .ok (.iconst 0, 1) := by decide +kernel
theorem dX0_run_258 : decode cX0_run 258 = .ok (.iload_n 3, 1) := by decide +kernel
theorem dX0_run_259 : decode cX0_run 259 = .ok (.iload 8, 2) := by decide +kernel
theorem dX0_run_261 : decode cX0_run 261 = .ok (.invokevirtual 36, 3) := by decide +kernel
theorem dX0_run_264 : decode cX0_run 264 = .ok (.iconst 3, 1) := by decide +kernel
theorem dX0_run_265 : decode cX0_run 265 = .ok (.isub, 1) := by decide +kernel
theorem dX0_run_266 : decode cX0_run 266 = .ok (.ireturn, 1) := by decide +kernel
theorem dX0_run_267 : decode cX0_run 267 = .ok (.aload_n 0, 1) := by decide +kernel
theorem dX0_run_268 : decode cX0_run 268 = .ok (.iload 7, 2) := by decide +kernel
theorem dX0_run_270 : decode cX0_run 270 = .ok (.iconst 1, 1) := by decide +kernel
theorem dX0_run_271 : decode cX0_run 271 = .ok (.iload_n 3, 1) := by decide +kernel
theorem dX0_run_272 : decode cX0_run 272 = .ok (.iload 8, 2) := by decide +kernel
theorem dX0_run_274 : decode cX0_run 274 = .ok (.invokevirtual 36, 3) := by decide +kernel
theorem dX0_run_277 : decode cX0_run 277 = .ok (.aload_n 0, 1) := by decide +kernel
theorem dX0_run_278 : decode cX0_run 278 = .ok (.aload_n 0, 1) := by decide +kernel
theorem dX0_run_279 : decode cX0_run 279 = .ok (.getfield 21, 3) := by decide +kernel
theorem dX0_run_282 : decode cX0_run 282 = .ok (.iconst 0, 1) := by decide +kernel
theorem dX0_run_283 : decode cX0_run 283 = .ok (.iconst 2, 1) := by decide +kernel
theorem dX0_run_284 : decode cX0_run 284 = .ok (.iload 8, 2) := by decide +kernel
theorem dX0_run_286 : decode cX0_run 286 = .ok (.invokevirtual 36, 3) := by decide +kernel
theorem dX0_run_289 : decode cX0_run 289 = .ok (.iadd, 1) := by decide +kernel
theorem dX0_run_290 : decode cX0_run 290 = .ok (.ireturn, 1) := by decide +kernel
theorem dX0_run_291 : decode cX0_run 291 = .ok (.aload_n 0, 1) := by decide +kernel
theorem dX0_run_292 : decode cX0_run 292 = .ok (.iload 7, 2) := by decide +kernel
theorem dX0_run_294 : decode cX0_run 294 = .ok (.iconst 3, 1) := by decide +kernel
theorem dX0_run_295 : decode cX0_run 295 = .ok (.iload_n 3, 1) := by decide +kernel
theorem dX0_run_296 : decode cX0_run 296 = .ok (.iload 8, 2) := by decide +kernel
theorem dX0_run_298 : decode cX0_run 298 = .ok (.invokevirtual 36, 3) := by decide +kernel
theorem dX0_run_301 : decode cX0_run 301 = .ok (.iconst 5, 1) := by decide +kernel
theorem dX0_run_302 : decode cX0_run 302 = .ok (.imul, 1) := by decide +kernel
theorem dX0_run_303 : decode cX0_run 303 = .ok (.ireturn, 1) := by decide +kernel
theorem dX0_run_304 : decode cX0_run 304 = .ok (.aload_n 0, 1) := by decide +kernel
theorem dX0_run_305 : decode cX0_run 305 = .ok (.iload 7, 2) := by decide +kernel
theorem dX0_run_307 : decode cX0_run 307 = .ok (.iconst 0, 1) := by decide +kernel
theorem dX0_run_308 : decode cX0_run 308 = .ok (.iload_n 3, 1) := by decide +kernel
theorem dX0_run_309 : decode cX0_run 309 = .ok (.iload 8, 2) := by decide +kernel
theorem dX0_run_311 : decode cX0_run 311 = .ok (.invokevirtual 36, 3) := by decide +kernel
theorem dX0_run_314 : decode cX0_run 314 = .ok (.aload_n 0, 1) := by decide +kernel
theorem dX0_run_315 : decode cX0_run 315 = .ok (.getfield 31, 3) := by decide +kernel
theorem dX0_run_318 : decode cX0_run 318 = .ok (.ixor, 1) := by decide +kernel
theorem dX0_run_319 : decode cX0_run 319 = .ok (.ireturn, 1) := by decide +kernel
theorem dX0_run_320 : decode cX0_run 320 = .ok (.aload_n 0, 1) := by decide +kernel
theorem dX0_run_321 : decode cX0_run 321 = .ok (.iload 7, 2) := by decide +kernel
theorem dX0_run_323 : decode cX0_run 323 = .ok (.iconst 2, 1) := by decide +kernel
theorem dX0_run_324 : decode cX0_run 324 = .ok (.iload_n 3, 1) := by decide +kernel
theorem dX0_run_325 : decode cX0_run 325 = .ok (.iconst 1, 1) := by decide +kernel
theorem dX0_run_326 : decode cX0_run 326 = .ok (.isub, 1) := by decide +kernel
theorem dX0_run_327 : decode cX0_run 327 = .ok (.iload 8, 2) := by decide +kernel
theorem dX0_run_329 : decode cX0_run 329 = .ok (.invokevirtual 36, 3) := by decide +kernel
theorem dX0_run_332 : decode cX0_run 332 = .ok (.ireturn, 1) := by decide +kernel
theorem dX0_run_333 : decode cX0_run 333 = .ok (.iconst 0, 1) := by decide +kernel
theorem dX0_run_334 : decode cX0_run 334 = .ok (.aload_n 0, 1) := by decide +kernel
theorem dX0_run_335 : decode cX0_run 335 = .ok (.iload 7, 2) := by decide +kernel
theorem dX0_run_337 : decode cX0_run 337 = .ok (.iconst 1, 1) := by decide +kernel
theorem dX0_run_338 : decode cX0_run 338 = .ok (.iload_n 3, 1) := by decide +kernel
theorem dX0_run_339 : decode cX0_run 339 = .ok (.iload 8, 2) := by decide +kernel
theorem dX0_run_341 : decode cX0_run 341 = .ok (.invokevirtual 36, 3) := by decide +kernel
theorem dX0_run_344 : decode cX0_run 344 = .ok (.isub, 1) := by decide +kernel
theorem dX0_run_345 : decode cX0_run 345 = .ok (.ireturn, 1) := by decide +kernel
theorem dX0_run_346 : decode cX0_run 346 = .ok (.aload_n 0, 1) := by decide +kernel
theorem dX0_run_347 : decode cX0_run 347 = .ok (.iload 7, 2) := by decide +kernel
theorem dX0_run_349 : decode cX0_run 349 = .ok (.iconst 3, 1) := by decide +kernel
theorem dX0_run_350 : decode cX0_run 350 = .ok (.iload_n 3, 1) := by decide +kernel
theorem dX0_run_351 : decode cX0_run 351 = .ok (.iload 8, 2) := by decide +kernel
theorem dX0_run_353 : decode cX0_run 353 = .ok (.invokevirtual 36, 3) := by decide +kernel
theorem dX0_run_356 : decode cX0_run 356 = .ok (.aload_n 0, 1) := by decide +kernel
theorem dX0_run_357 : decode cX0_run 357 = .ok (.aload_n 0, 1) := by decide +kernel
theorem dX0_run_358 : decode cX0_run 358 = .ok (.getfield 21, 3) := by decide +kernel
theorem dX0_run_361 : decode cX0_run 361 = .ok (.iconst 2, 1) := by decide +kernel
theorem dX0_run_362 : decode cX0_run 362 = .ok (.aload_n 0, 1) := by decide +kernel
theorem dX0_run_363 : decode cX0_run 363 = .ok (.getfield 25, 3) := by decide +kernel
theorem dX0_run_366 : decode cX0_run 366 = .ok (.iconst 1, 1) := by decide +kernel
theorem dX0_run_367 : decode cX0_run 367 = .ok (.iadd, 1) := by decide +kernel
theorem dX0_run_368 : decode cX0_run 368 = .ok (.iload 8, 2) := by decide +kernel
theorem dX0_run_370 : decode cX0_run 370 = .ok (.invokevirtual 36, 3) := by decide +kernel
theorem dX0_run_373 : decode cX0_run 373 = .ok (.iadd, 1) := by decide +kernel
theorem dX0_run_374 : decode cX0_run 374 = .ok (.ireturn, 1) := by decide +kernel
theorem dX0_run_375 : decode cX0_run 375 = .ok (.aload_n 0, 1) := by decide +kernel
theorem dX0_run_376 : decode cX0_run 376 = .ok (.iload 7, 2) := by decide +kernel
theorem dX0_run_378 : decode cX0_run 378 = .ok (.iconst 0, 1) := by decide +kernel
theorem dX0_run_379 : decode cX0_run 379 = .ok (.iload_n 3, 1) := by decide +kernel
theorem dX0_run_380 : decode cX0_run 380 = .ok (.iload 8, 2) := by decide +kernel
theorem dX0_run_382 : decode cX0_run 382 = .ok (.invokevirtual 36, 3) := by decide +kernel
theorem dX0_run_385 : decode cX0_run 385 = .ok (.bipush 7, 2) := by decide +kernel
theorem dX0_run_387 : decode cX0_run 387 = .ok (.imul, 1) := by decide +kernel
theorem dX0_run_388 : decode cX0_run 388 = .ok (.ireturn, 1) := by decide +kernel
theorem dX0_run_389 : decode cX0_run 389 = .ok (.iconst 0, 1) := by decide +kernel
theorem dX0_run_390 : decode cX0_run 390 = .ok (.ireturn, 1) := by decide +kernel
theorem dX0_parted_0 : decode cX0_parted 0 = .ok (.aload_n 0, 1) := by decide +kernel
theorem dX0_parted_1 : decode cX0_parted 1 = .ok (.getfield 31, 3) := by decide +kernel
theorem dX0_parted_4 : decode cX0_parted 4 = .ok (.aload_n 0, 1) := by decide +kernel
theorem dX0_parted_5 : decode cX0_parted 5 = .ok (.getfield 25, 3) := by decide +kernel
theorem dX0_parted_8 : decode cX0_parted 8 = .ok (.isub, 1) := by decide +kernel
theorem dX0_parted_9 : decode cX0_parted 9 = .ok (.istore_n 2, 1) := by decide +kernel
theorem dX0_parted_10 : decode cX0_parted 10 = .ok (.aload_n 0, 1) := by decide +kernel
theorem dX0_parted_11 : decode cX0_parted 11 = .ok (.iload_n 2, 1) := by decide +kernel
theorem dX0_parted_12 : decode cX0_parted 12 = .ok (.ifCond .ne 7, 3) := by decide +kernel
theorem dX0_parted_15 : decode cX0_parted 15 = .ok (.iconst 1, 1) := by decide +kernel
theorem dX0_parted_16 : decode cX0_parted 16 = .ok (.goto 4, 3) := by decide +kernel
theorem dX0_parted_19 : decode cX0_parted 19 = .ok (.iconst 0, 1) := by decide +kernel
theorem dX0_parted_20 : decode cX0_parted 20 = .ok (.putfield 32, 3) := by decide +kernel
theorem dX0_parted_23 : decode cX0_parted 23 = .ok (.iload_n 2, 1) := by decide +kernel
theorem dX0_parted_24 : decode cX0_parted 24 = .ok (.ifCond .ne 7, 3) := by decide +kernel
theorem dX0_parted_27 : decode cX0_parted 27 = .ok (.iconst 0, 1) := by decide +kernel
theorem dX0_parted_28 : decode cX0_parted 28 = .ok (.goto 6, 3) := by decide +kernel
theorem dX0_parted_31 : decode cX0_parted 31 = .ok (.iload_n 1, 1) := by decide +kernel
theorem dX0_parted_32 : decode cX0_parted 32 = .ok (.iload_n 2, 1) := by decide +kernel
theorem dX0_parted_33 : decode cX0_parted 33 = .ok (.idiv, 1) := by decide +kernel
theorem dX0_parted_34 : decode cX0_parted 34 = .ok (.ireturn, 1) := by decide +kernel
theorem dX0_note_0 : decode cX0_note 0 = .ok (.aload_n 0, 1) := by decide +kernel
theorem dX0_note_1 : decode cX0_note 1 = .ok (.getfield 54, 3) := by decide +kernel
theorem dX0_note_4 : decode cX0_note 4 = .ok (.bipush 30, 2) := by decide +kernel
theorem dX0_note_6 : decode cX0_note 6 = .ok (.if_icmp .lt 4, 3) := by decide +kernel
theorem dX0_note_9 : decode cX0_note 9 = .ok (.return_, 1) := by decide +kernel
theorem dX0_note_10 : decode cX0_note 10 = .ok (.aload_n 0, 1) := by decide +kernel
theorem dX0_note_11 : decode cX0_note 11 = .ok (.getfield 9, 3) := by decide +kernel
theorem dX0_note_14 : decode cX0_note 14 = .ok (.aload_n 0, 1) := by decide +kernel
theorem dX0_note_15 : decode cX0_note 15 = .ok (.getfield 54, 3) := by decide +kernel
theorem dX0_note_18 : decode cX0_note 18 = .ok (.iload_n 1, 1) := by decide +kernel
theorem dX0_note_19 : decode cX0_note 19 = .ok (.iastore, 1) := by decide +kernel
theorem dX0_note_20 : decode cX0_note 20 = .ok (.aload_n 0, 1) := by decide +kernel
theorem dX0_note_21 : decode cX0_note 21 = .ok (.dup, 1) := by decide +kernel
theorem dX0_note_22 : decode cX0_note 22 = .ok (.getfield 54, 3) := by decide +kernel
theorem dX0_note_25 : decode cX0_note 25 = .ok (.iconst 1, 1) := by decide +kernel
theorem dX0_note_26 : decode cX0_note 26 = .ok (.iadd, 1) := by decide +kernel
theorem dX0_note_27 : decode cX0_note 27 = .ok (.putfield 54, 3) := by decide +kernel
theorem dX0_note_30 : decode cX0_note 30 = .ok (.return_, 1) := by decide +kernel
theorem dX1_init_0 : decode cX1_init 0 = .ok (.aload_n 0, 1) := by decide +kernel
theorem dX1_init_1 : decode cX1_init 1 = .ok (.invokespecial 3, 3) := by decide +kernel
theorem dX1_init_4 : decode cX1_init 4 = .ok (.aload_n 0, 1) := by decide +kernel
theorem dX1_init_5 : decode cX1_init 5 = .ok (.iconst 5, 1) := by decide +kernel
theorem dX1_init_6 : decode cX1_init 6 = .ok (.newarray .int, 2) := by decide +kernel
theorem dX1_init_8 : decode cX1_init 8 = .ok (.putfield 9, 3) := by decide +kernel
theorem dX1_init_11 : decode cX1_init 11 = .ok (.aload_n 0, 1) := by decide +kernel
theorem dX1_init_12 : decode cX1_init 12 = .ok (.iconst 5, 1) := by decide +kernel
theorem dX1_init_13 : decode cX1_init 13 = .ok (.newarray .int, 2) := by decide +kernel
theorem dX1_init_15 : decode cX1_init 15 = .ok (.putfield 15, 3) := by decide +kernel
theorem dX1_init_18 : decode cX1_init 18 = .ok (.aload_n 0, 1) := by decide +kernel
theorem dX1_init_19 : decode cX1_init 19 = .ok (.iconst 5, 1) := by decide +kernel
theorem dX1_init_20 : decode cX1_init 20 = .ok (.newarray .int, 2) := by decide +kernel
theorem dX1_init_22 : decode cX1_init 22 = .ok (.putfield 18, 3) := by decide +kernel
theorem dX1_init_25 : decode cX1_init 25 = .ok (.aload_n 0, 1) := by decide +kernel
theorem dX1_init_26 : decode cX1_init 26 = .ok (.bipush 10, 2) := by decide +kernel
theorem dX1_init_28 : decode cX1_init 28 = .ok (.newarray .int, 2) := by decide +kernel
theorem dX1_init_30 : decode cX1_init 30 = .ok (.putfield 21, 3) := by decide +kernel
theorem dX1_init_33 : decode cX1_init 33 = .ok (.aload_n 0, 1) := by decide +kernel
theorem dX1_init_34 : decode cX1_init 34 = .ok (.bipush 10, 2) := by decide +kernel
theorem dX1_init_36 : decode cX1_init 36 = .ok (.newarray .int, 2) := by decide +kernel
theorem dX1_init_38 : decode cX1_init 38 = .ok (.putfield 24, 3) := by decide +kernel
theorem dX1_init_41 : decode cX1_init 41 = .ok (.aload_n 0, 1) := by decide +kernel
theorem dX1_init_42 : decode cX1_init 42 = .ok (.bipush 10, 2) := by decide +kernel
theorem dX1_init_44 : decode cX1_init 44 = .ok (.newarray .int, 2) := by decide +kernel
theorem dX1_init_46 : decode cX1_init 46 = .ok (.putfield 27, 3) := by decide +kernel
theorem dX1_init_49 : decode cX1_init 49 = .ok (.aload_n 0, 1) := by decide +kernel
theorem dX1_init_50 : decode cX1_init 50 = .ok (.bipush 10, 2) := by decide +kernel
theorem dX1_init_52 : decode cX1_init 52 = .ok (.newarray .int, 2) := by decide +kernel
theorem dX1_init_54 : decode cX1_init 54 = .ok (.putfield 30, 3) := by decide +kernel
theorem dX1_init_57 : decode cX1_init 57 = .ok (.aload_n 0, 1) := by decide +kernel
theorem dX1_init_58 : decode cX1_init 58 = .ok (.bipush 10, 2) := by decide +kernel
theorem dX1_init_60 : decode cX1_init 60 = .ok (.newarray .int, 2) := by decide +kernel
theorem dX1_init_62 : decode cX1_init 62 = .ok (.putfield 33, 3) := by decide +kernel
theorem dX1_init_65 : decode cX1_init 65 = .ok (.aload_n 0, 1) := by decide +kernel
theorem dX1_init_66 : decode cX1_init 66 = .ok (.bipush 10, 2) := by decide +kernel
theorem dX1_init_68 : decode cX1_init 68 = .ok (.newarray .int, 2) := by decide +kernel
theorem dX1_init_70 : decode cX1_init 70 = .ok (.putfield 36, 3) := by decide +kernel
theorem dX1_init_73 : decode cX1_init 73 = .ok (.aload_n 0, 1) := by decide +kernel
theorem dX1_init_74 : decode cX1_init 74 = .ok (.bipush 10, 2) := by decide +kernel
theorem dX1_init_76 : decode cX1_init 76 = .ok (.newarray .int, 2) := by decide +kernel
theorem dX1_init_78 : decode cX1_init 78 = .ok (.putfield 39, 3) := by decide +kernel
theorem dX1_init_81 : decode cX1_init 81 = .ok (.aload_n 0, 1) := by decide +kernel
theorem dX1_init_82 : decode cX1_init 82 = .ok (.sipush 145, 3) := by decide +kernel
theorem dX1_init_85 : decode cX1_init 85 = .ok (.newarray .long, 2) := by decide +kernel
theorem dX1_init_87 : decode cX1_init 87 = .ok (.putfield 42, 3) := by decide +kernel
theorem dX1_init_90 : decode cX1_init 90 = .ok (.aload_n 0, 1) := by decide +kernel
theorem dX1_init_91 : decode cX1_init 91 = .ok (.bipush 84, 2) := by decide +kernel
theorem dX1_init_93 : decode cX1_init 93 = .ok (.newarray .int, 2) := by decide +kernel
theorem dX1_init_95 : decode cX1_init 95 = .ok (.putfield 46, 3) := by decide +kernel
theorem dX1_init_98 : decode cX1_init 98 = .ok (.return_, 1) := by decide +kernel
theorem dX1_setUp_0 : decode cX1_setUp 0 = .ok (.aload_n 0, 1) := by decide +kernel
theorem dX1_setUp_1 : decode cX1_setUp 1 = .ok (.aload_n 1, 1) := by decide +kernel
theorem dX1_setUp_2 : decode cX1_setUp 2 = .ok (.getfield 49, 3) := by decide +kernel
theorem dX1_setUp_5 : decode cX1_setUp 5 = .ok (.putfield 55, 3) := by decide +kernel
theorem dX1_setUp_8 : decode cX1_setUp 8 = .ok (.aload_n 0, 1) := by decide +kernel
theorem dX1_setUp_9 : decode cX1_setUp 9 = .ok (.aload_n 1, 1) := by decide +kernel
theorem dX1_setUp_10 : decode cX1_setUp 10 = .ok (.getfield 58, 3) := by decide +kernel
theorem dX1_setUp_13 : decode cX1_setUp 13 = .ok (.putfield 46, 3) := by decide +kernel
theorem dX1_setUp_16 : decode cX1_setUp 16 = .ok (.aload_n 0, 1) := by decide +kernel
theorem dX1_setUp_17 : decode cX1_setUp 17 = .ok (.getfield 9, 3) := by decide +kernel
theorem dX1_setUp_20 : decode cX1_setUp 20 = .ok (.iconst 0, 1) := by decide +kernel
theorem dX1_setUp_21 : decode cX1_setUp 21 = .ok (.iconst 0, 1) := by decide +kernel
theorem dX1_setUp_22 : decode cX1_setUp 22 = .ok (.iastore, 1) := by decide +kernel
theorem dX1_setUp_23 : decode cX1_setUp 23 = .ok (.aload_n 0, 1) := by decide +kernel
theorem dX1_setUp_24 : decode cX1_setUp 24 = .ok (.getfield 9, 3) := by decide +kernel
theorem dX1_setUp_27 : decode cX1_setUp 27 = .ok (.iconst 1, 1) := by decide +kernel
theorem dX1_setUp_28 : decode cX1_setUp 28 = .ok (.iload_n 3, 1) := by decide +kernel
theorem dX1_setUp_29 : decode cX1_setUp 29 = .ok (.iastore, 1) := by decide +kernel
theorem dX1_setUp_30 : decode cX1_setUp 30 = .ok (.aload_n 0, 1) := by decide +kernel
theorem dX1_setUp_31 : decode cX1_setUp 31 = .ok (.getfield 18, 3) := by decide +kernel
theorem dX1_setUp_34 : decode cX1_setUp 34 = .ok (.iconst 4, 1) := by decide +kernel
theorem dX1_setUp_35 : decode cX1_setUp 35 = .ok (.invokestatic 59, 3) := by decide +kernel
theorem dX1_setUp_38 : decode cX1_setUp 38 = .ok (.iconst 0, 1) := by decide +kernel
theorem dX1_setUp_39 : decode cX1_setUp 39 = .ok (.istore 4, 2) := by decide +kernel
theorem dX1_setUp_41 : decode cX1_setUp 41 = .ok (.iload 4, 2) := by decide +kernel
theorem dX1_setUp_43 : decode cX1_setUp 43 = .ok (.aload_n 0, 1) := by decide +kernel
theorem dX1_setUp_44 : decode cX1_setUp 44 = .ok (.getfield 55, 3) := by decide +kernel
theorem dX1_setUp_47 : decode cX1_setUp 47 = .ok (.if_icmp .ge 158, 3) := by decide +kernel
theorem dX1_setUp_50 : decode cX1_setUp 50 = .ok (.aload_n 1, 1) := by decide +kernel
theorem dX1_setUp_51 : decode cX1_setUp 51 = .ok (.getfield 65, 3) := by decide +kernel
theorem dX1_setUp_54 : decode cX1_setUp 54 = .ok (.iload 4, 2) := by decide +kernel
theorem dX1_setUp_56 : decode cX1_setUp 56 = .ok (.aaload, 1) := by decide +kernel
theorem dX1_setUp_57 : decode cX1_setUp 57 = .ok (.astore 5, 2) := by decide +kernel
theorem dX1_setUp_59 : decode cX1_setUp 59 = .ok (.aload_n 0, 1) := by decide +kernel
theorem dX1_setUp_60 : decode cX1_setUp 60 = .ok (.getfield 24, 3) := by decide +kernel
theorem dX1_setUp_63 : decode cX1_setUp 63 = .ok (.iload 4, 2) := by decide +kernel
theorem dX1_setUp_65 : decode cX1_setUp 65 = .ok (.aload 5, 2) := by decide +kernel
theorem dX1_setUp_67 : decode cX1_setUp 67 = .ok (.getfield 69, 3) := by decide +kernel
theorem dX1_setUp_70 : decode cX1_setUp 70 = .ok (.iastore, 1) := by decide +kernel
theorem dX1_setUp_71 : decode cX1_setUp 71 = .ok (.aload_n 0, 1) := by decide +kernel
theorem dX1_setUp_72 : decode cX1_setUp 72 = .ok (.getfield 27, 3) := by decide +kernel
theorem dX1_setUp_75 : decode cX1_setUp 75 = .ok (.iload 4, 2) := by decide +kernel
theorem dX1_setUp_77 : decode cX1_setUp 77 = .ok (.aload 5, 2) := by decide +kernel
theorem dX1_setUp_79 : decode cX1_setUp 79 = .ok (.getfield 73, 3) := by decide +kernel
theorem dX1_setUp_82 : decode cX1_setUp 82 = .ok (.iastore, 1) := by decide +kernel
theorem dX1_setUp_83 : decode cX1_setUp 83 = .ok (.aload_n 0, 1) := by decide +kernel
theorem dX1_setUp_84 : decode cX1_setUp 84 = .ok (.getfield 21, 3) := by decide +kernel
theorem dX1_setUp_87 : decode cX1_setUp 87 = .ok (.iload 4, 2) := by decide +kernel
theorem dX1_setUp_89 : decode cX1_setUp 89 = .ok (.aload 5, 2) := by decide +kernel
theorem dX1_setUp_91 : decode cX1_setUp 91 = .ok (.invokestatic 75, 3) := by decide +kernel
theorem dX1_setUp_94 : decode cX1_setUp 94 = .ok (.iastore, 1) := by decide +kernel
theorem dX1_setUp_95 : decode cX1_setUp 95 = .ok (.aload_n 0, 1) := by decide +kernel
theorem dX1_setUp_96 : decode cX1_setUp 96 = .ok (.getfield 39, 3) := by decide +kernel
theorem dX1_setUp_99 : decode cX1_setUp 99 = .ok (.iload 4, 2) := by decide +kernel
theorem dX1_setUp_101 : decode cX1_setUp 101 = .ok (.aload 5, 2) := by decide +kernel
theorem dX1_setUp_103 : decode cX1_setUp 103 = .ok (.getfield 79, 3) := by decide +kernel
theorem dX1_setUp_106 : decode cX1_setUp 106 = .ok (.iastore, 1) := by decide +kernel
theorem dX1_setUp_107 : decode cX1_setUp 107 = .ok (.aload_n 0, 1) := by decide +kernel
theorem dX1_setUp_108 : decode cX1_setUp 108 = .ok (.getfield 21, 3) := by decide +kernel
theorem dX1_setUp_111 : decode cX1_setUp 111 = .ok (.iload 4, 2) := by decide +kernel
theorem dX1_setUp_113 : decode cX1_setUp 113 = .ok (.iaload, 1) := by decide +kernel
theorem dX1_setUp_114 : decode cX1_setUp 114 = .ok (.iconst 1, 1) := by decide +kernel
theorem dX1_setUp_115 : decode cX1_setUp 115 = .ok (.if_icmp .eq 14, 3) := by decide +kernel
theorem dX1_setUp_118 : decode cX1_setUp 118 = .ok (.aload_n 0, 1) := by decide +kernel
theorem dX1_setUp_119 : decode cX1_setUp 119 = .ok (.getfield 21, 3) := by decide +kernel
theorem dX1_setUp_122 : decode cX1_setUp 122 = .ok (.iload 4, 2) := by decide +kernel
theorem dX1_setUp_124 : decode cX1_setUp 124 = .ok (.iaload, 1) := by decide +kernel
theorem dX1_setUp_125 : decode cX1_setUp 125 = .ok (.iconst 2, 1) := by decide +kernel
theorem dX1_setUp_126 : decode cX1_setUp 126 = .ok (.if_icmp .ne 20, 3) := by decide +kernel
theorem dX1_setUp_129 : decode cX1_setUp 129 = .ok (.aload_n 0, 1) := by decide +kernel
theorem dX1_setUp_130 : decode cX1_setUp 130 = .ok (.aload_n 1, 1) := by decide +kernel
theorem dX1_setUp_131 : decode cX1_setUp 131 = .ok (.iload 4, 2) := by decide +kernel
theorem dX1_setUp_133 : decode cX1_setUp 133 = .ok (.iload_n 2, 1) := by decide +kernel
theorem dX1_setUp_134 : decode cX1_setUp 134 = .ok (.iconst 3, 1) := by decide +kernel
theorem dX1_setUp_135 : decode cX1_setUp 135 = .ok (.idiv, 1) := by decide +kernel
theorem dX1_setUp_136 : decode cX1_setUp 136 = .ok (.iconst 1, 1) := by decide +kernel
theorem dX1_setUp_137 : decode cX1_setUp 137 = .ok (.isub, 1) := by decide +kernel
theorem dX1_setUp_138 : decode cX1_setUp 138 = .ok (.iload_n 2, 1) := by decide +kernel
theorem dX1_setUp_139 : decode cX1_setUp 139 = .ok (.iconst 3, 1) := by decide +kernel
theorem dX1_setUp_140 : decode cX1_setUp 140 = .ok (.irem, 1) := by decide +kernel
theorem dX1_setUp_141 : decode cX1_setUp 141 = .ok (.iconst 1, 1) := by decide +kernel
theorem dX1_setUp_142 : decode cX1_setUp 142 = .ok (.isub, 1) := by decide +kernel
theorem dX1_setUp_143 : decode cX1_setUp 143 = .ok (.invokevirtual 82, 3) := by decide +kernel
theorem dX1_setUp_146 : decode cX1_setUp 146 = .ok (.aload 5, 2) := by decide +kernel
theorem dX1_setUp_148 : decode cX1_setUp 148 = .ok (.getfield 86, 3) := by decide +kernel
theorem dX1_setUp_151 : decode cX1_setUp 151 = .ok (.iconst 4, 1) := by decide +kernel
theorem dX1_setUp_152 : decode cX1_setUp 152 = .ok (.if_icmp .ne 47, 3) := by decide +kernel
theorem dX1_setUp_155 : decode cX1_setUp 155 = .ok (.aload 5, 2) := by decide +kernel
theorem dX1_setUp_157 : decode cX1_setUp 157 = .ok (.getfield 89, 3) := by decide +kernel
theorem dX1_setUp_160 : decode cX1_setUp 160 = .ok (.ifCond .ne 39, 3) := by decide +kernel
theorem dX1_setUp_163 : decode cX1_setUp 163 = .ok (.aload_n 0, 1) := by decide +kernel
theorem dX1_setUp_164 : decode cX1_setUp 164 = .ok (.getfield 18, 3) := by decide +kernel
theorem dX1_setUp_167 : decode cX1_setUp 167 = .ok (.aload 5, 2) := by decide +kernel
theorem dX1_setUp_169 : decode cX1_setUp 169 = .ok (.getfield 69, 3) := by decide +kernel
theorem dX1_setUp_172 : decode cX1_setUp 172 = .ok (.dup2, 1) := by decide +kernel
theorem dX1_setUp_173 : decode cX1_setUp 173 = .ok (.iaload, 1) := by decide +kernel
theorem dX1_setUp_174 : decode cX1_setUp 174 = .ok (.aload 5, 2) := by decide +kernel
theorem dX1_setUp_176 : decode cX1_setUp 176 = .ok (.getfield 79, 3) := by decide +kernel
theorem dX1_setUp_179 : decode cX1_setUp 179 = .ok (.iadd, 1) := by decide +kernel
theorem dX1_setUp_180 : decode cX1_setUp 180 = .ok (.iastore, 1) := by decide +kernel
theorem dX1_setUp_181 : decode cX1_setUp 181 = .ok (.aload_n 0, 1) := by decide +kernel
theorem dX1_setUp_182 : decode cX1_setUp 182 = .ok (.getfield 18, 3) := by decide +kernel
theorem dX1_setUp_185 : decode cX1_setUp 185 = .ok (.aload 5, 2) := by decide +kernel
theorem dX1_setUp_187 : decode cX1_setUp 187 = .ok (.getfield 73, 3) := by decide +kernel
theorem dX1_setUp_190 : decode cX1_setUp 190 = .ok (.dup2, 1) := by decide +kernel
theorem dX1_setUp_191 : decode cX1_setUp 191 = .ok (.iaload, 1) := by decide +kernel
theorem dX1_setUp_192 : decode cX1_setUp 192 = .ok (.aload 5, 2) := by decide +kernel
theorem dX1_setUp_194 : decode cX1_setUp 194 = .ok (.getfield 79, 3) := by decide +kernel
theorem dX1_setUp_197 : decode cX1_setUp 197 = .ok (.iadd, 1) := by decide +kernel
theorem dX1_setUp_198 : decode cX1_setUp 198 = .ok (.iastore, 1) := by decide +kernel
theorem dX1_setUp_199 : decode cX1_setUp 199 = .ok (.iinc 4 1, 3) := by decide +kernel
theorem dX1_setUp_202 : decode cX1_setUp 202 = .ok (.goto (-161), 3) := by decide +kernel
theorem dX1_setUp_205 : decode cX1_setUp 205 = .ok (.return_, 1) := by decide +kernel
theorem dX1_setUpLaw_0 : decode cX1_setUpLaw 0 = .ok (.aload_n 1, 1) := by decide +kernel
theorem dX1_setUpLaw_1 : decode cX1_setUpLaw 1 = .ok (.getfield 65, 3) := by decide +kernel
theorem dX1_setUpLaw_4 : decode cX1_setUpLaw 4 = .ok (.iload_n 2, 1) := by decide +kernel
theorem dX1_setUpLaw_5 : decode cX1_setUpLaw 5 = .ok (.aaload, 1) := by decide +kernel
theorem dX1_setUpLaw_6 : decode cX1_setUpLaw 6 = .ok (.astore 5, 2) := by decide +kernel
theorem dX1_setUpLaw_8 : decode cX1_setUpLaw 8 = .ok (.aload 5, 2) := by decide +kernel
theorem dX1_setUpLaw_10 : decode cX1_setUpLaw 10 = .ok (.getfield 86, 3) := by decide +kernel
theorem dX1_setUpLaw_13 : decode cX1_setUpLaw 13 = .ok (.iconst 3, 1) := by decide +kernel
theorem dX1_setUpLaw_14 : decode cX1_setUpLaw 14 = .ok (.if_icmp .ne 27, 3) := by decide +kernel
theorem dX1_setUpLaw_17 : decode cX1_setUpLaw 17 = .ok (.aload 5, 2) := by decide +kernel
theorem dX1_setUpLaw_19 : decode cX1_setUpLaw 19 = .ok (.getfield 92, 3) := by decide +kernel
theorem dX1_setUpLaw_22 : decode cX1_setUpLaw 22 = .ok (.ifCond .lt 19, 3) := by decide +kernel
theorem dX1_setUpLaw_25 : decode cX1_setUpLaw 25 = .ok (.aload 5, 2) := by decide +kernel
theorem dX1_setUpLaw_27 : decode cX1_setUpLaw 27 = .ok (.getfield 92, 3) := by decide +kernel
theorem dX1_setUpLaw_30 : decode cX1_setUpLaw 30 = .ok (.aload_n 1, 1) := by decide +kernel
theorem dX1_setUpLaw_31 : decode cX1_setUpLaw 31 = .ok (.getfield 49, 3) := by decide +kernel
theorem dX1_setUpLaw_34 : decode cX1_setUpLaw 34 = .ok (.if_icmp .ge 7, 3) := by decide +kernel
theorem dX1_setUpLaw_37 : decode cX1_setUpLaw 37 = .ok (.iconst 1, 1) := by decide +kernel
theorem dX1_setUpLaw_38 : decode cX1_setUpLaw 38 = .ok (.goto 4, 3) := by decide +kernel
theorem dX1_setUpLaw_41 : decode cX1_setUpLaw 41 = .ok (.iconst 0, 1) := by decide +kernel
theorem dX1_setUpLaw_42 : decode cX1_setUpLaw 42 = .ok (.istore 6, 2) := by decide +kernel
theorem dX1_setUpLaw_44 : decode cX1_setUpLaw 44 = .ok (.iload 6, 2) := by decide +kernel
theorem dX1_setUpLaw_46 : decode cX1_setUpLaw 46 = .ok (.ifCond .eq 19, 3) := by decide +kernel
theorem dX1_setUpLaw_49 : decode cX1_setUpLaw 49 = .ok (.aload_n 1, 1) := by decide +kernel
theorem dX1_setUpLaw_50 : decode cX1_setUpLaw 50 = .ok (.getfield 65, 3) := by decide +kernel
theorem dX1_setUpLaw_53 : decode cX1_setUpLaw 53 = .ok (.aload 5, 2) := by decide +kernel
theorem dX1_setUpLaw_55 : decode cX1_setUpLaw 55 = .ok (.getfield 92, 3) := by decide +kernel
theorem dX1_setUpLaw_58 : decode cX1_setUpLaw 58 = .ok (.aaload, 1) := by decide +kernel
theorem dX1_setUpLaw_59 : decode cX1_setUpLaw 59 = .ok (.getfield 79, 3) := by decide +kernel
theorem dX1_setUpLaw_62 : decode cX1_setUpLaw 62 = .ok (.goto 8, 3) := by decide +kernel
theorem dX1_setUpLaw_65 : decode cX1_setUpLaw 65 = .ok (.aload 5, 2) := by decide +kernel
theorem dX1_setUpLaw_67 : decode cX1_setUpLaw 67 = .ok (.getfield 79, 3) := by decide +kernel
theorem dX1_setUpLaw_70 : decode cX1_setUpLaw 70 = .ok (.istore 7, 2) := by decide +kernel
theorem dX1_setUpLaw_72 : decode cX1_setUpLaw 72 = .ok (.aload_n 0, 1) := by decide +kernel
theorem dX1_setUpLaw_73 : decode cX1_setUpLaw 73 = .ok (.getfield 33, 3) := by decide +kernel
theorem dX1_setUpLaw_76 : decode cX1_setUpLaw 76 = .ok (.iload_n 2, 1) := by decide +kernel
theorem dX1_setUpLaw_77 : decode cX1_setUpLaw 77 = .ok (.aload 5, 2) := by decide +kernel
theorem dX1_setUpLaw_79 : decode cX1_setUpLaw 79 = .ok (.getfield 95, 3) := by decide +kernel
theorem dX1_setUpLaw_82 : decode cX1_setUpLaw 82 = .ok (.bipush 21, 2) := by decide +kernel
theorem dX1_setUpLaw_84 : decode cX1_setUpLaw 84 = .ok (.imul, 1) := by decide +kernel
theorem dX1_setUpLaw_85 : decode cX1_setUpLaw 85 = .ok (.iastore, 1) := by decide +kernel
theorem dX1_setUpLaw_86 : decode cX1_setUpLaw 86 = .ok (.aload_n 0, 1) := by decide +kernel
theorem dX1_setUpLaw_87 : decode cX1_setUpLaw 87 = .ok (.getfield 36, 3) := by decide +kernel
theorem dX1_setUpLaw_90 : decode cX1_setUpLaw 90 = .ok (.iload_n 2, 1) := by decide +kernel
theorem dX1_setUpLaw_91 : decode cX1_setUpLaw 91 = .ok (.aload 5, 2) := by decide +kernel
theorem dX1_setUpLaw_93 : decode cX1_setUpLaw 93 = .ok (.getfield 98, 3) := by decide +kernel
theorem dX1_setUpLaw_96 : decode cX1_setUpLaw 96 = .ok (.iload_n 3, 1) := by decide +kernel
theorem dX1_setUpLaw_97 : decode cX1_setUpLaw 97 = .ok (.imul, 1) := by decide +kernel
theorem dX1_setUpLaw_98 : decode cX1_setUpLaw 98 = .ok (.iastore, 1) := by decide +kernel
theorem dX1_setUpLaw_99 : decode cX1_setUpLaw 99 = .ok (.aload_n 0, 1) := by decide +kernel
theorem dX1_setUpLaw_100 : decode cX1_setUpLaw 100 = .ok (.getfield 39, 3) := by decide +kernel
theorem dX1_setUpLaw_103 : decode cX1_setUpLaw 103 = .ok (.iload_n 2, 1) := by decide +kernel
theorem dX1_setUpLaw_104 : decode cX1_setUpLaw 104 = .ok (.iload 7, 2) := by decide +kernel
theorem dX1_setUpLaw_106 : decode cX1_setUpLaw 106 = .ok (.bipush 10, 2) := by decide +kernel
theorem dX1_setUpLaw_108 : decode cX1_setUpLaw 108 = .ok (.aload 5, 2) := by decide +kernel
theorem dX1_setUpLaw_110 : decode cX1_setUpLaw 110 = .ok (.getfield 101, 3) := by decide +kernel
theorem dX1_setUpLaw_113 : decode cX1_setUpLaw 113 = .ok (.iconst 5, 1) := by decide +kernel
theorem dX1_setUpLaw_114 : decode cX1_setUpLaw 114 = .ok (.isub, 1) := by decide +kernel
theorem dX1_setUpLaw_115 : decode cX1_setUpLaw 115 = .ok (.iload 4, 2) := by decide +kernel
theorem dX1_setUpLaw_117 : decode cX1_setUpLaw 117 = .ok (.imul, 1) := by decide +kernel
theorem dX1_setUpLaw_118 : decode cX1_setUpLaw 118 = .ok (.iadd, 1) := by decide +kernel
theorem dX1_setUpLaw_119 : decode cX1_setUpLaw 119 = .ok (.imul, 1) := by decide +kernel
theorem dX1_setUpLaw_120 : decode cX1_setUpLaw 120 = .ok (.iastore, 1) := by decide +kernel
theorem dX1_setUpLaw_121 : decode cX1_setUpLaw 121 = .ok (.aload_n 0, 1) := by decide +kernel
theorem dX1_setUpLaw_122 : decode cX1_setUpLaw 122 = .ok (.getfield 30, 3) := by decide +kernel
theorem dX1_setUpLaw_125 : decode cX1_setUpLaw 125 = .ok (.iload_n 2, 1) := by decide +kernel
theorem dX1_setUpLaw_126 : decode cX1_setUpLaw 126 = .ok (.aload_n 0, 1) := by decide +kernel
theorem dX1_setUpLaw_127 : decode cX1_setUpLaw 127 = .ok (.getfield 21, 3) := by decide +kernel
theorem dX1_setUpLaw_130 : decode cX1_setUpLaw 130 = .ok (.iload_n 2, 1) := by decide +kernel
theorem dX1_setUpLaw_131 : decode cX1_setUpLaw 131 = .ok (.iaload, 1) := by decide +kernel
theorem dX1_setUpLaw_132 : decode cX1_setUpLaw 132 = .ok (.iconst 2, 1) := by decide +kernel
theorem dX1_setUpLaw_133 : decode cX1_setUpLaw 133 = .ok (.if_icmp .ne 11, 3) := by decide +kernel
theorem dX1_setUpLaw_136 : decode cX1_setUpLaw 136 = .ok (.aload 5, 2) := by decide +kernel
theorem dX1_setUpLaw_138 : decode cX1_setUpLaw 138 = .ok (.getfield 104, 3) := by decide +kernel
theorem dX1_setUpLaw_141 : decode cX1_setUpLaw 141 = .ok (.goto 4, 3) := by decide +kernel
theorem dX1_setUpLaw_144 : decode cX1_setUpLaw 144 = .ok (.iconst 0, 1) := by decide +kernel
theorem dX1_setUpLaw_145 : decode cX1_setUpLaw 145 = .ok (.iastore, 1) := by decide +kernel
theorem dX1_setUpLaw_146 : decode cX1_setUpLaw 146 = .ok (.return_, 1) := by decide +kernel
theorem dX1_modeOf_0 : decode cX1_modeOf 0 = .ok (.aload_n 0, 1) := by decide +kernel
theorem dX1_modeOf_1 : decode cX1_modeOf 1 = .ok (.getfield 86, 3) := by decide +kernel
theorem dX1_modeOf_4 : decode cX1_modeOf 4 = .ok (.iconst 4, 1) := by decide +kernel
theorem dX1_modeOf_5 : decode cX1_modeOf 5 = .ok (.if_icmp .eq 11, 3) := by decide +kernel
theorem dX1_modeOf_8 : decode cX1_modeOf 8 = .ok (.aload_n 0, 1) := by decide +kernel
theorem dX1_modeOf_9 : decode cX1_modeOf 9 = .ok (.getfield 89, 3) := by decide +kernel
theorem dX1_modeOf_12 : decode cX1_modeOf 12 = .ok (.iconst 1, 1) := by decide +kernel
theorem dX1_modeOf_13 : decode cX1_modeOf 13 = .ok (.if_icmp .ne 5, 3) := by decide +kernel
theorem dX1_modeOf_16 : decode cX1_modeOf 16 = .ok (.iconst 0, 1) := by decide +kernel
theorem dX1_modeOf_17 : decode cX1_modeOf 17 = .ok (.ireturn, 1) := by decide +kernel
theorem dX1_modeOf_18 : decode cX1_modeOf 18 = .ok (.aload_n 0, 1) := by decide +kernel
theorem dX1_modeOf_19 : decode cX1_modeOf 19 = .ok (.getfield 89, 3) := by decide +kernel
theorem dX1_modeOf_22 : decode cX1_modeOf 22 = .ok (.iconst 2, 1) := by decide +kernel
theorem dX1_modeOf_23 : decode cX1_modeOf 23 = .ok (.if_icmp .ne 5, 3) := by decide +kernel
theorem dX1_modeOf_26 : decode cX1_modeOf 26 = .ok (.iconst 4, 1) := by decide +kernel
theorem dX1_modeOf_27 : decode cX1_modeOf 27 = .ok (.ireturn, 1) := by decide +kernel
theorem dX1_modeOf_28 : decode cX1_modeOf 28 = .ok (.aload_n 0, 1) := by decide +kernel
theorem dX1_modeOf_29 : decode cX1_modeOf 29 = .ok (.getfield 86, 3) := by decide +kernel
theorem dX1_modeOf_32 : decode cX1_modeOf 32 = .ok (.iconst 5, 1) := by decide +kernel
theorem dX1_modeOf_33 : decode cX1_modeOf 33 = .ok (.if_icmp .ne 5, 3) := by decide +kernel
theorem dX1_modeOf_36 : decode cX1_modeOf 36 = .ok (.iconst 3, 1) := by decide +kernel
theorem dX1_modeOf_37 : decode cX1_modeOf 37 = .ok (.ireturn, 1) := by decide +kernel
theorem dX1_modeOf_38 : decode cX1_modeOf 38 = .ok (.aload_n 0, 1) := by decide +kernel
theorem dX1_modeOf_39 : decode cX1_modeOf 39 = .ok (.getfield 86, 3) := by decide +kernel
theorem dX1_modeOf_42 : decode cX1_modeOf 42 = .ok (.iconst 1, 1) := by decide +kernel
theorem dX1_modeOf_43 : decode cX1_modeOf 43 = .ok (.if_icmp .ne 7, 3) := by decide +kernel
theorem dX1_modeOf_46 : decode cX1_modeOf 46 = .ok (.iconst 1, 1) := by decide +kernel
theorem dX1_modeOf_47 : decode cX1_modeOf 47 = .ok (.goto 4, 3) := by decide +kernel
theorem dX1_modeOf_50 : decode cX1_modeOf 50 = .ok (.iconst 2, 1) := by decide +kernel
theorem dX1_modeOf_51 : decode cX1_modeOf 51 = .ok (.ireturn, 1) := by decide +kernel
theorem dX1_place_0 : decode cX1_place 0 = .ok (.aload_n 0, 1) := by decide +kernel
theorem dX1_place_1 : decode cX1_place 1 = .ok (.getfield 9, 3) := by decide +kernel
theorem dX1_place_4 : decode cX1_place 4 = .ok (.iconst 2, 1) := by decide +kernel
theorem dX1_place_5 : decode cX1_place 5 = .ok (.iload_n 1, 1) := by decide +kernel
theorem dX1_place_6 : decode cX1_place 6 = .ok (.sipush 441, 3) := by decide +kernel
theorem dX1_place_9 : decode cX1_place 9 = .ok (.idiv, 1) := by decide +kernel
theorem dX1_place_10 : decode cX1_place 10 = .ok (.iastore, 1) := by decide +kernel
theorem dX1_place_11 : decode cX1_place 11 = .ok (.aload_n 0, 1) := by decide +kernel
theorem dX1_place_12 : decode cX1_place 12 = .ok (.getfield 9, 3) := by decide +kernel
theorem dX1_place_15 : decode cX1_place 15 = .ok (.iconst 3, 1) := by decide +kernel
theorem dX1_place_16 : decode cX1_place 16 = .ok (.iload_n 1, 1) := by decide +kernel
theorem dX1_place_17 : decode cX1_place 17 = .ok (.bipush 21, 2) := by decide +kernel
theorem dX1_place_19 : decode cX1_place 19 = .ok (.idiv, 1) := by decide +kernel
theorem dX1_place_20 : decode cX1_place 20 = .ok (.bipush 21, 2) := by decide +kernel
theorem dX1_place_22 : decode cX1_place 22 = .ok (.irem, 1) := by decide +kernel
theorem dX1_place_23 : decode cX1_place 23 = .ok (.iastore, 1) := by decide +kernel
theorem dX1_place_24 : decode cX1_place 24 = .ok (.aload_n 0, 1) := by decide +kernel
theorem dX1_place_25 : decode cX1_place 25 = .ok (.getfield 9, 3) := by decide +kernel
theorem dX1_place_28 : decode cX1_place 28 = .ok (.iconst 4, 1) := by decide +kernel
theorem dX1_place_29 : decode cX1_place 29 = .ok (.iload_n 1, 1) := by decide +kernel
theorem dX1_place_30 : decode cX1_place 30 = .ok (.bipush 21, 2) := by decide +kernel
theorem dX1_place_32 : decode cX1_place 32 = .ok (.irem, 1) := by decide +kernel
theorem dX1_place_33 : decode cX1_place 33 = .ok (.iastore, 1) := by decide +kernel
theorem dX1_place_34 : decode cX1_place 34 = .ok (.return_, 1) := by decide +kernel
theorem dX1_stateNow_0 : decode cX1_stateNow 0 = .ok (.aload_n 0, 1) := by decide +kernel
theorem dX1_stateNow_1 : decode cX1_stateNow 1 = .ok (.getfield 9, 3) := by decide +kernel
theorem dX1_stateNow_4 : decode cX1_stateNow 4 = .ok (.iconst 2, 1) := by decide +kernel
theorem dX1_stateNow_5 : decode cX1_stateNow 5 = .ok (.iaload, 1) := by decide +kernel
theorem dX1_stateNow_6 : decode cX1_stateNow 6 = .ok (.bipush 21, 2) := by decide +kernel
theorem dX1_stateNow_8 : decode cX1_stateNow 8 = .ok (.imul, 1) := by decide +kernel
theorem dX1_stateNow_9 : decode cX1_stateNow 9 = .ok (.aload_n 0, 1) := by decide +kernel
theorem dX1_stateNow_10 : decode cX1_stateNow 10 = .ok (.getfield 9, 3) := by decide +kernel
theorem dX1_stateNow_13 : decode cX1_stateNow 13 = .ok (.iconst 3, 1) := by decide +kernel
theorem dX1_stateNow_14 : decode cX1_stateNow 14 = .ok (.iaload, 1) := by decide +kernel
theorem dX1_stateNow_15 : decode cX1_stateNow 15 = .ok (.iadd, 1) := by decide +kernel
theorem dX1_stateNow_16 : decode cX1_stateNow 16 = .ok (.bipush 21, 2) := by decide +kernel
theorem dX1_stateNow_18 : decode cX1_stateNow 18 = .ok (.imul, 1) := by decide +kernel
theorem dX1_stateNow_19 : decode cX1_stateNow 19 = .ok (.aload_n 0, 1) := by decide +kernel
theorem dX1_stateNow_20 : decode cX1_stateNow 20 = .ok (.getfield 9, 3) := by decide +kernel
theorem dX1_stateNow_23 : decode cX1_stateNow 23 = .ok (.iconst 4, 1) := by decide +kernel
theorem dX1_stateNow_24 : decode cX1_stateNow 24 = .ok (.iaload, 1) := by decide +kernel
theorem dX1_stateNow_25 : decode cX1_stateNow 25 = .ok (.iadd, 1) := by decide +kernel
theorem dX1_stateNow_26 : decode cX1_stateNow 26 = .ok (.ireturn, 1) := by decide +kernel
theorem dX1_through_0 : decode cX1_through 0 = .ok (.aload_n 0, 1) := by decide +kernel
theorem dX1_through_1 : decode cX1_through 1 = .ok (.getfield 9, 3) := by decide +kernel
theorem dX1_through_4 : decode cX1_through 4 = .ok (.aload_n 0, 1) := by decide +kernel
theorem dX1_through_5 : decode cX1_through 5 = .ok (.getfield 24, 3) := by decide +kernel
theorem dX1_through_8 : decode cX1_through 8 = .ok (.iload_n 1, 1) := by decide +kernel
theorem dX1_through_9 : decode cX1_through 9 = .ok (.iaload, 1) := by decide +kernel
theorem dX1_through_10 : decode cX1_through 10 = .ok (.iaload, 1) := by decide +kernel
theorem dX1_through_11 : decode cX1_through 11 = .ok (.aload_n 0, 1) := by decide +kernel
theorem dX1_through_12 : decode cX1_through 12 = .ok (.getfield 9, 3) := by decide +kernel
theorem dX1_through_15 : decode cX1_through 15 = .ok (.aload_n 0, 1) := by decide +kernel
theorem dX1_through_16 : decode cX1_through 16 = .ok (.getfield 27, 3) := by decide +kernel
theorem dX1_through_19 : decode cX1_through 19 = .ok (.iload_n 1, 1) := by decide +kernel
theorem dX1_through_20 : decode cX1_through 20 = .ok (.iaload, 1) := by decide +kernel
theorem dX1_through_21 : decode cX1_through 21 = .ok (.iaload, 1) := by decide +kernel
theorem dX1_through_22 : decode cX1_through 22 = .ok (.isub, 1) := by decide +kernel
theorem dX1_through_23 : decode cX1_through 23 = .ok (.istore_n 2, 1) := by decide +kernel
theorem dX1_through_24 : decode cX1_through 24 = .ok (.aload_n 0, 1) := by decide +kernel
theorem dX1_through_25 : decode cX1_through 25 = .ok (.getfield 21, 3) := by decide +kernel
theorem dX1_through_28 : decode cX1_through 28 = .ok (.iload_n 1, 1) := by decide +kernel
theorem dX1_through_29 : decode cX1_through 29 = .ok (.iaload, 1) := by decide +kernel
theorem dX1_through_30 : decode cX1_through 30 = .ok (.iconst 3, 1) := by decide +kernel
theorem dX1_through_31 : decode cX1_through 31 = .ok (.if_icmp .ne 10, 3) := by decide +kernel
theorem dX1_through_34 : decode cX1_through 34 = .ok (.aload_n 0, 1) := by decide +kernel
theorem dX1_through_35 : decode cX1_through 35 = .ok (.getfield 39, 3) := by decide +kernel
theorem dX1_through_38 : decode cX1_through 38 = .ok (.iload_n 1, 1) := by decide +kernel
theorem dX1_through_39 : decode cX1_through 39 = .ok (.iaload, 1) := by decide +kernel
theorem dX1_through_40 : decode cX1_through 40 = .ok (.ireturn, 1) := by decide +kernel
theorem dX1_through_41 : decode cX1_through 41 = .ok (.aload_n 0, 1) := by decide +kernel
theorem dX1_through_42 : decode cX1_through 42 = .ok (.getfield 21, 3) := by decide +kernel
theorem dX1_through_45 : decode cX1_through 45 = .ok (.iload_n 1, 1) := by decide +kernel
theorem dX1_through_46 : decode cX1_through 46 = .ok (.iaload, 1) := by decide +kernel
theorem dX1_through_47 : decode cX1_through 47 = .ok (.iconst 4, 1) := by decide +kernel
theorem dX1_through_48 : decode cX1_through 48 = .ok (.if_icmp .ne 8, 3) := by decide +kernel
theorem dX1_through_51 : decode cX1_through 51 = .ok (.bipush 40, 2) := by decide +kernel
theorem dX1_through_53 : decode cX1_through 53 = .ok (.iload_n 2, 1) := by decide +kernel
theorem dX1_through_54 : decode cX1_through 54 = .ok (.imul, 1) := by decide +kernel
theorem dX1_through_55 : decode cX1_through 55 = .ok (.ireturn, 1) := by decide +kernel
theorem dX1_through_56 : decode cX1_through 56 = .ok (.aload_n 0, 1) := by decide +kernel
theorem dX1_through_57 : decode cX1_through 57 = .ok (.getfield 21, 3) := by decide +kernel
theorem dX1_through_60 : decode cX1_through 60 = .ok (.iload_n 1, 1) := by decide +kernel
theorem dX1_through_61 : decode cX1_through 61 = .ok (.iaload, 1) := by decide +kernel
theorem dX1_through_62 : decode cX1_through 62 = .ok (.ifCond .eq 7, 3) := by decide +kernel
theorem dX1_through_65 : decode cX1_through 65 = .ok (.iload_n 2, 1) := by decide +kernel
theorem dX1_through_66 : decode cX1_through 66 = .ok (.ifCond .ne 5, 3) := by decide +kernel
theorem dX1_through_69 : decode cX1_through 69 = .ok (.iconst 0, 1) := by decide +kernel
theorem dX1_through_70 : decode cX1_through 70 = .ok (.ireturn, 1) := by decide +kernel
theorem dX1_through_71 : decode cX1_through 71 = .ok (.aload_n 0, 1) := by decide +kernel
theorem dX1_through_72 : decode cX1_through 72 = .ok (.getfield 46, 3) := by decide +kernel
theorem dX1_through_75 : decode cX1_through 75 = .ok (.aload_n 0, 1) := by decide +kernel
theorem dX1_through_76 : decode cX1_through 76 = .ok (.getfield 33, 3) := by decide +kernel
theorem dX1_through_79 : decode cX1_through 79 = .ok (.iload_n 1, 1) := by decide +kernel
theorem dX1_through_80 : decode cX1_through 80 = .ok (.iaload, 1) := by decide +kernel
theorem dX1_through_81 : decode cX1_through 81 = .ok (.iload_n 2, 1) := by decide +kernel
theorem dX1_through_82 : decode cX1_through 82 = .ok (.ifCond .ge 8, 3) := by decide +kernel
theorem dX1_through_85 : decode cX1_through 85 = .ok (.iload_n 2, 1) := by decide +kernel
theorem dX1_through_86 : decode cX1_through 86 = .ok (.ineg, 1) := by decide +kernel
theorem dX1_through_87 : decode cX1_through 87 = .ok (.goto 4, 3) := by decide +kernel
theorem dX1_through_90 : decode cX1_through 90 = .ok (.iload_n 2, 1) := by decide +kernel
theorem dX1_through_91 : decode cX1_through 91 = .ok (.iadd, 1) := by decide +kernel
theorem dX1_through_92 : decode cX1_through 92 = .ok (.iaload, 1) := by decide +kernel
theorem dX1_through_93 : decode cX1_through 93 = .ok (.aload_n 0, 1) := by decide +kernel
theorem dX1_through_94 : decode cX1_through 94 = .ok (.getfield 36, 3) := by decide +kernel
theorem dX1_through_97 : decode cX1_through 97 = .ok (.iload_n 1, 1) := by decide +kernel
theorem dX1_through_98 : decode cX1_through 98 = .ok (.iaload, 1) := by decide +kernel
theorem dX1_through_99 : decode cX1_through 99 = .ok (.iadd, 1) := by decide +kernel
theorem dX1_through_100 : decode cX1_through 100 = .ok (.istore_n 3, 1) := by decide +kernel
theorem dX1_through_101 : decode cX1_through 101 = .ok (.iload_n 3, 1) := by decide +kernel
theorem dX1_through_102 : decode cX1_through 102 = .ok (.ifCond .gt 5, 3) := by decide +kernel
theorem dX1_through_105 : decode cX1_through 105 = .ok (.iconst 0, 1) := by decide +kernel
theorem dX1_through_106 : decode cX1_through 106 = .ok (.ireturn, 1) := by decide +kernel
theorem dX1_through_107 : decode cX1_through 107 = .ok (.iload_n 3, 1) := by decide +kernel
theorem dX1_through_108 : decode cX1_through 108 = .ok (.aload_n 0, 1) := by decide +kernel
theorem dX1_through_109 : decode cX1_through 109 = .ok (.getfield 39, 3) := by decide +kernel
theorem dX1_through_112 : decode cX1_through 112 = .ok (.iload_n 1, 1) := by decide +kernel
theorem dX1_through_113 : decode cX1_through 113 = .ok (.iaload, 1) := by decide +kernel
theorem dX1_through_114 : decode cX1_through 114 = .ok (.imul, 1) := by decide +kernel
theorem dX1_through_115 : decode cX1_through 115 = .ok (.bipush 10, 2) := by decide +kernel
theorem dX1_through_117 : decode cX1_through 117 = .ok (.idiv, 1) := by decide +kernel
theorem dX1_through_118 : decode cX1_through 118 = .ok (.istore 4, 2) := by decide +kernel
theorem dX1_through_120 : decode cX1_through 120 = .ok (.iload_n 2, 1) := by decide +kernel
theorem dX1_through_121 : decode cX1_through 121 = .ok (.ifCond .ge 8, 3) := by decide +kernel
theorem dX1_through_124 : decode cX1_through 124 = .ok (.iload 4, 2) := by decide +kernel
theorem dX1_through_126 : decode cX1_through 126 = .ok (.ineg, 1) := by decide +kernel
theorem dX1_through_127 : decode cX1_through 127 = .ok (.istore 4, 2) := by decide +kernel
theorem dX1_through_129 : decode cX1_through 129 = .ok (.aload_n 0, 1) := by decide +kernel
theorem dX1_through_130 : decode cX1_through 130 = .ok (.getfield 21, 3) := by decide +kernel
theorem dX1_through_133 : decode cX1_through 133 = .ok (.iload_n 1, 1) := by decide +kernel
theorem dX1_through_134 : decode cX1_through 134 = .ok (.iaload, 1) := by decide +kernel
theorem dX1_through_135 : decode cX1_through 135 = .ok (.iconst 2, 1) := by decide +kernel
theorem dX1_through_136 : decode cX1_through 136 = .ok (.if_icmp .ne 17, 3) := by decide +kernel
theorem dX1_through_139 : decode cX1_through 139 = .ok (.aload_n 0, 1) := by decide +kernel
theorem dX1_through_140 : decode cX1_through 140 = .ok (.getfield 9, 3) := by decide +kernel
theorem dX1_through_143 : decode cX1_through 143 = .ok (.aload_n 0, 1) := by decide +kernel
theorem dX1_through_144 : decode cX1_through 144 = .ok (.getfield 30, 3) := by decide +kernel
theorem dX1_through_147 : decode cX1_through 147 = .ok (.iload_n 1, 1) := by decide +kernel
theorem dX1_through_148 : decode cX1_through 148 = .ok (.iaload, 1) := by decide +kernel
theorem dX1_through_149 : decode cX1_through 149 = .ok (.iaload, 1) := by decide +kernel
theorem dX1_through_150 : decode cX1_through 150 = .ok (.goto 5, 3) := by decide +kernel
theorem dX1_through_153 : decode cX1_through 153 = .ok (.bipush 10, 2) := by decide +kernel
theorem dX1_through_155 : decode cX1_through 155 = .ok (.istore 5, 2) := by decide +kernel
theorem dX1_through_157 : decode cX1_through 157 = .ok (.iload 5, 2) := by decide +kernel
theorem dX1_through_159 : decode cX1_through 159 = .ok (.bipush 10, 2) := by decide +kernel
theorem dX1_through_161 : decode cX1_through 161 = .ok (.if_icmp .ge 14, 3) := by decide +kernel
theorem dX1_through_164 : decode cX1_through 164 = .ok (.iload 4, 2) := by decide +kernel
theorem dX1_through_166 : decode cX1_through 166 = .ok (.iload 5, 2) := by decide +kernel
theorem dX1_through_168 : decode cX1_through 168 = .ok (.imul, 1) := by decide +kernel
theorem dX1_through_169 : decode cX1_through 169 = .ok (.bipush 10, 2) := by decide +kernel
theorem dX1_through_171 : decode cX1_through 171 = .ok (.idiv, 1) := by decide +kernel
theorem dX1_through_172 : decode cX1_through 172 = .ok (.goto 5, 3) := by decide +kernel
theorem dX1_through_175 : decode cX1_through 175 = .ok (.iload 4, 2) := by decide +kernel
theorem dX1_through_177 : decode cX1_through 177 = .ok (.ireturn, 1) := by decide +kernel
theorem dX1_move_0 : decode cX1_move 0 = .ok (.aload_n 0, 1) := by decide +kernel
theorem dX1_move_1 : decode cX1_move 1 = .ok (.getfield 15, 3) := by decide +kernel
theorem dX1_move_4 : decode cX1_move 4 = .ok (.iconst 0, 1) := by decide +kernel
theorem dX1_move_5 : decode cX1_move 5 = .ok (.invokestatic 59, 3) := by decide +kernel
theorem dX1_move_8 : decode cX1_move 8 = .ok (.iconst 0, 1) := by decide +kernel
theorem dX1_move_9 : decode cX1_move 9 = .ok (.istore_n 1, 1) := by decide +kernel
theorem dX1_move_10 : decode cX1_move 10 = .ok (.iload_n 1, 1) := by decide +kernel
theorem dX1_move_11 : decode cX1_move 11 = .ok (.aload_n 0, 1) := by decide +kernel
theorem dX1_move_12 : decode cX1_move 12 = .ok (.getfield 55, 3) := by decide +kernel
theorem dX1_move_15 : decode cX1_move 15 = .ok (.if_icmp .ge 57, 3) := by decide +kernel
theorem dX1_move_18 : decode cX1_move 18 = .ok (.aload_n 0, 1) := by decide +kernel
theorem dX1_move_19 : decode cX1_move 19 = .ok (.getfield 21, 3) := by decide +kernel
theorem dX1_move_22 : decode cX1_move 22 = .ok (.iload_n 1, 1) := by decide +kernel
theorem dX1_move_23 : decode cX1_move 23 = .ok (.iaload, 1) := by decide +kernel
theorem dX1_move_24 : decode cX1_move 24 = .ok (.ifCond .ne 6, 3) := by decide +kernel
theorem dX1_move_27 : decode cX1_move 27 = .ok (.goto 39, 3) := by decide +kernel
theorem dX1_move_30 : decode cX1_move 30 = .ok (.aload_n 0, 1) := by decide +kernel
theorem dX1_move_31 : decode cX1_move 31 = .ok (.iload_n 1, 1) := by decide +kernel
theorem dX1_move_32 : decode cX1_move 32 = .ok (.invokevirtual 106, 3) := by decide +kernel
theorem dX1_move_35 : decode cX1_move 35 = .ok (.istore_n 2, 1) := by decide +kernel
theorem dX1_move_36 : decode cX1_move 36 = .ok (.aload_n 0, 1) := by decide +kernel
theorem dX1_move_37 : decode cX1_move 37 = .ok (.getfield 15, 3) := by decide +kernel
theorem dX1_move_40 : decode cX1_move 40 = .ok (.aload_n 0, 1) := by decide +kernel
theorem dX1_move_41 : decode cX1_move 41 = .ok (.getfield 24, 3) := by decide +kernel
theorem dX1_move_44 : decode cX1_move 44 = .ok (.iload_n 1, 1) := by decide +kernel
theorem dX1_move_45 : decode cX1_move 45 = .ok (.iaload, 1) := by decide +kernel
theorem dX1_move_46 : decode cX1_move 46 = .ok (.dup2, 1) := by decide +kernel
theorem dX1_move_47 : decode cX1_move 47 = .ok (.iaload, 1) := by decide +kernel
theorem dX1_move_48 : decode cX1_move 48 = .ok (.iload_n 2, 1) := by decide +kernel
theorem dX1_move_49 : decode cX1_move 49 = .ok (.isub, 1) := by decide +kernel
theorem dX1_move_50 : decode cX1_move 50 = .ok (.iastore, 1) := by decide +kernel
theorem dX1_move_51 : decode cX1_move 51 = .ok (.aload_n 0, 1) := by decide +kernel
theorem dX1_move_52 : decode cX1_move 52 = .ok (.getfield 15, 3) := by decide +kernel
theorem dX1_move_55 : decode cX1_move 55 = .ok (.aload_n 0, 1) := by decide +kernel
theorem dX1_move_56 : decode cX1_move 56 = .ok (.getfield 27, 3) := by decide +kernel
theorem dX1_move_59 : decode cX1_move 59 = .ok (.iload_n 1, 1) := by decide +kernel
theorem dX1_move_60 : decode cX1_move 60 = .ok (.iaload, 1) := by decide +kernel
theorem dX1_move_61 : decode cX1_move 61 = .ok (.dup2, 1) := by decide +kernel
theorem dX1_move_62 : decode cX1_move 62 = .ok (.iaload, 1) := by decide +kernel
theorem dX1_move_63 : decode cX1_move 63 = .ok (.iload_n 2, 1) := by decide +kernel
theorem dX1_move_64 : decode cX1_move 64 = .ok (.iadd, 1) := by decide +kernel
theorem dX1_move_65 : decode cX1_move 65 = .ok (.iastore, 1) := by decide +kernel
theorem dX1_move_66 : decode cX1_move 66 = .ok (.iinc 1 1, 3) := by decide +kernel
theorem dX1_move_69 : decode cX1_move 69 = .ok (.goto (-59), 3) := by decide +kernel
theorem dX1_move_72 : decode cX1_move 72 = .ok (.iconst 2, 1) := by decide +kernel
theorem dX1_move_73 : decode cX1_move 73 = .ok (.istore_n 1, 1) := by decide +kernel
theorem dX1_move_74 : decode cX1_move 74 = .ok (.iload_n 1, 1) := by decide +kernel
theorem dX1_move_75 : decode cX1_move 75 = .ok (.iconst 4, 1) := by decide +kernel
theorem dX1_move_76 : decode cX1_move 76 = .ok (.if_icmp .gt 26, 3) := by decide +kernel
theorem dX1_move_79 : decode cX1_move 79 = .ok (.aload_n 0, 1) := by decide +kernel
theorem dX1_move_80 : decode cX1_move 80 = .ok (.getfield 9, 3) := by decide +kernel
theorem dX1_move_83 : decode cX1_move 83 = .ok (.iload_n 1, 1) := by decide +kernel
theorem dX1_move_84 : decode cX1_move 84 = .ok (.aload_n 0, 1) := by decide +kernel
theorem dX1_move_85 : decode cX1_move 85 = .ok (.iload_n 1, 1) := by decide +kernel
theorem dX1_move_86 : decode cX1_move 86 = .ok (.aload_n 0, 1) := by decide +kernel
theorem dX1_move_87 : decode cX1_move 87 = .ok (.getfield 15, 3) := by decide +kernel
theorem dX1_move_90 : decode cX1_move 90 = .ok (.iload_n 1, 1) := by decide +kernel
theorem dX1_move_91 : decode cX1_move 91 = .ok (.iaload, 1) := by decide +kernel
theorem dX1_move_92 : decode cX1_move 92 = .ok (.invokevirtual 110, 3) := by decide +kernel
theorem dX1_move_95 : decode cX1_move 95 = .ok (.iastore, 1) := by decide +kernel
theorem dX1_move_96 : decode cX1_move 96 = .ok (.iinc 1 1, 3) := by decide +kernel
theorem dX1_move_99 : decode cX1_move 99 = .ok (.goto (-25), 3) := by decide +kernel
theorem dX1_move_102 : decode cX1_move 102 = .ok (.return_, 1) := by decide +kernel
theorem dX1_moved_0 : decode cX1_moved 0 = .ok (.aload_n 0, 1) := by decide +kernel
theorem dX1_moved_1 : decode cX1_moved 1 = .ok (.getfield 18, 3) := by decide +kernel
theorem dX1_moved_4 : decode cX1_moved 4 = .ok (.iload_n 1, 1) := by decide +kernel
theorem dX1_moved_5 : decode cX1_moved 5 = .ok (.iaload, 1) := by decide +kernel
theorem dX1_moved_6 : decode cX1_moved 6 = .ok (.istore_n 3, 1) := by decide +kernel
theorem dX1_moved_7 : decode cX1_moved 7 = .ok (.aload_n 0, 1) := by decide +kernel
theorem dX1_moved_8 : decode cX1_moved 8 = .ok (.getfield 9, 3) := by decide +kernel
theorem dX1_moved_11 : decode cX1_moved 11 = .ok (.iload_n 1, 1) := by decide +kernel
theorem dX1_moved_12 : decode cX1_moved 12 = .ok (.iaload, 1) := by decide +kernel
theorem dX1_moved_13 : decode cX1_moved 13 = .ok (.iload_n 3, 1) := by decide +kernel
theorem dX1_moved_14 : decode cX1_moved 14 = .ok (.ifCond .le 9, 3) := by decide +kernel
theorem dX1_moved_17 : decode cX1_moved 17 = .ok (.iload_n 2, 1) := by decide +kernel
theorem dX1_moved_18 : decode cX1_moved 18 = .ok (.iload_n 3, 1) := by decide +kernel
theorem dX1_moved_19 : decode cX1_moved 19 = .ok (.idiv, 1) := by decide +kernel
theorem dX1_moved_20 : decode cX1_moved 20 = .ok (.goto 4, 3) := by decide +kernel
theorem dX1_moved_23 : decode cX1_moved 23 = .ok (.iconst 0, 1) := by decide +kernel
theorem dX1_moved_24 : decode cX1_moved 24 = .ok (.iadd, 1) := by decide +kernel
theorem dX1_moved_25 : decode cX1_moved 25 = .ok (.istore 4, 2) := by decide +kernel
theorem dX1_moved_27 : decode cX1_moved 27 = .ok (.iload 4, 2) := by decide +kernel
theorem dX1_moved_29 : decode cX1_moved 29 = .ok (.ifCond .ge 7, 3) := by decide +kernel
theorem dX1_moved_32 : decode cX1_moved 32 = .ok (.iconst 0, 1) := by decide +kernel
theorem dX1_moved_33 : decode cX1_moved 33 = .ok (.goto 17, 3) := by decide +kernel
theorem dX1_moved_36 : decode cX1_moved 36 = .ok (.iload 4, 2) := by decide +kernel
theorem dX1_moved_38 : decode cX1_moved 38 = .ok (.bipush 20, 2) := by decide +kernel
theorem dX1_moved_40 : decode cX1_moved 40 = .ok (.if_icmp .le 8, 3) := by decide +kernel
theorem dX1_moved_43 : decode cX1_moved 43 = .ok (.bipush 20, 2) := by decide +kernel
theorem dX1_moved_45 : decode cX1_moved 45 = .ok (.goto 5, 3) := by decide +kernel
theorem dX1_moved_48 : decode cX1_moved 48 = .ok (.iload 4, 2) := by decide +kernel
theorem dX1_moved_50 : decode cX1_moved 50 = .ok (.ireturn, 1) := by decide +kernel
theorem dX1_walk_0 : decode cX1_walk 0 = .ok (.aload_n 0, 1) := by decide +kernel
theorem dX1_walk_1 : decode cX1_walk 1 = .ok (.getfield 42, 3) := by decide +kernel
theorem dX1_walk_4 : decode cX1_walk 4 = .ok (.lconst 0, 1) := by decide +kernel
theorem dX1_walk_5 : decode cX1_walk 5 = .ok (.invokestatic 114, 3) := by decide +kernel
theorem dX1_walk_8 : decode cX1_walk 8 = .ok (.aload_n 0, 1) := by decide +kernel
theorem dX1_walk_9 : decode cX1_walk 9 = .ok (.iload_n 1, 1) := by decide +kernel
theorem dX1_walk_10 : decode cX1_walk 10 = .ok (.invokevirtual 117, 3) := by decide +kernel
theorem dX1_walk_13 : decode cX1_walk 13 = .ok (.iload_n 1, 1) := by decide +kernel
theorem dX1_walk_14 : decode cX1_walk 14 = .ok (.istore_n 2, 1) := by decide +kernel
theorem dX1_walk_15 : decode cX1_walk 15 = .ok (.iconst 0, 1) := by decide +kernel
theorem dX1_walk_16 : decode cX1_walk 16 = .ok (.istore_n 3, 1) := by decide +kernel
theorem dX1_walk_17 : decode cX1_walk 17 = .ok (.iload_n 3, 1) := by decide +kernel
theorem dX1_walk_18 : decode cX1_walk 18 = .ok (.sipush 9261, 3) := by decide +kernel
theorem dX1_walk_21 : decode cX1_walk 21 = .ok (.if_icmp .gt 132, 3) := by decide +kernel
theorem dX1_walk_24 : decode cX1_walk 24 = .ok (.aload_n 0, 1) := by decide +kernel
theorem dX1_walk_25 : decode cX1_walk 25 = .ok (.getfield 42, 3) := by decide +kernel
theorem dX1_walk_28 : decode cX1_walk 28 = .ok (.iload_n 2, 1) := by decide +kernel
theorem dX1_walk_29 : decode cX1_walk 29 = .ok (.bipush 64, 2) := by decide +kernel
theorem dX1_walk_31 : decode cX1_walk 31 = .ok (.idiv, 1) := by decide +kernel
theorem dX1_walk_32 : decode cX1_walk 32 = .ok (.dup2, 1) := by decide +kernel
theorem dX1_walk_33 : decode cX1_walk 33 = .ok (.laload, 1) := by decide +kernel
theorem dX1_walk_34 : decode cX1_walk 34 = .ok (.lconst 1, 1) := by decide +kernel
theorem dX1_walk_35 : decode cX1_walk 35 = .ok (.iload_n 2, 1) := by decide +kernel
theorem dX1_walk_36 : decode cX1_walk 36 = .ok (.bipush 64, 2) := by decide +kernel
theorem dX1_walk_38 : decode cX1_walk 38 = .ok (.irem, 1) := by decide +kernel
theorem dX1_walk_39 : decode cX1_walk 39 = .ok (.lshl, 1) := by decide +kernel
theorem dX1_walk_40 : decode cX1_walk 40 = .ok (.lor, 1) := by decide +kernel
theorem dX1_walk_41 : decode cX1_walk 41 = .ok (.lastore, 1) := by decide +kernel
theorem dX1_walk_42 : decode cX1_walk 42 = .ok (.aload_n 0, 1) := by decide +kernel
theorem dX1_walk_43 : decode cX1_walk 43 = .ok (.invokevirtual 121, 3) := by decide +kernel
theorem dX1_walk_46 : decode cX1_walk 46 = .ok (.aload_n 0, 1) := by decide +kernel
theorem dX1_walk_47 : decode cX1_walk 47 = .ok (.invokevirtual 124, 3) := by decide +kernel
theorem dX1_walk_50 : decode cX1_walk 50 = .ok (.istore 4, 2) := by decide +kernel
theorem dX1_walk_52 : decode cX1_walk 52 = .ok (.iload 4, 2) := by decide +kernel
theorem dX1_walk_54 : decode cX1_walk 54 = .ok (.iload_n 2, 1) := by decide +kernel
theorem dX1_walk_55 : decode cX1_walk 55 = .ok (.if_icmp .eq 26, 3) := by decide +kernel
theorem dX1_walk_58 : decode cX1_walk 58 = .ok (.aload_n 0, 1) := by decide +kernel
theorem dX1_walk_59 : decode cX1_walk 59 = .ok (.getfield 42, 3) := by decide +kernel
theorem dX1_walk_62 : decode cX1_walk 62 = .ok (.iload 4, 2) := by decide +kernel
theorem dX1_walk_64 : decode cX1_walk 64 = .ok (.bipush 64, 2) := by decide +kernel
theorem dX1_walk_66 : decode cX1_walk 66 = .ok (.idiv, 1) := by decide +kernel
theorem dX1_walk_67 : decode cX1_walk 67 = .ok (.laload, 1) := by decide +kernel
theorem dX1_walk_68 : decode cX1_walk 68 = .ok (.iload 4, 2) := by decide +kernel
theorem dX1_walk_70 : decode cX1_walk 70 = .ok (.bipush 64, 2) := by decide +kernel
theorem dX1_walk_72 : decode cX1_walk 72 = .ok (.irem, 1) := by decide +kernel
theorem dX1_walk_73 : decode cX1_walk 73 = .ok (.lushr, 1) := by decide +kernel
theorem dX1_walk_74 : decode cX1_walk 74 = .ok (.lconst 1, 1) := by decide +kernel
theorem dX1_walk_75 : decode cX1_walk 75 = .ok (.land, 1) := by decide +kernel
theorem dX1_walk_76 : decode cX1_walk 76 = .ok (.lconst 0, 1) := by decide +kernel
theorem dX1_walk_77 : decode cX1_walk 77 = .ok (.lcmp, 1) := by decide +kernel
theorem dX1_walk_78 : decode cX1_walk 78 = .ok (.ifCond .eq 66, 3) := by decide +kernel
theorem dX1_walk_81 : decode cX1_walk 81 = .ok (.iconst 1, 1) := by decide +kernel
theorem dX1_walk_82 : decode cX1_walk 82 = .ok (.istore 5, 2) := by decide +kernel
theorem dX1_walk_84 : decode cX1_walk 84 = .ok (.iload 4, 2) := by decide +kernel
theorem dX1_walk_86 : decode cX1_walk 86 = .ok (.iload_n 2, 1) := by decide +kernel
theorem dX1_walk_87 : decode cX1_walk 87 = .ok (.if_icmp .eq 7, 3) := by decide +kernel
theorem dX1_walk_90 : decode cX1_walk 90 = .ok (.aload_n 0, 1) := by decide +kernel
theorem dX1_walk_91 : decode cX1_walk 91 = .ok (.invokevirtual 121, 3) := by decide +kernel
theorem dX1_walk_94 : decode cX1_walk 94 = .ok (.iload 5, 2) := by decide +kernel
theorem dX1_walk_96 : decode cX1_walk 96 = .ok (.sipush 9261, 3) := by decide +kernel
theorem dX1_walk_99 : decode cX1_walk 99 = .ok (.if_icmp .ge 22, 3) := by decide +kernel
theorem dX1_walk_102 : decode cX1_walk 102 = .ok (.aload_n 0, 1) := by decide +kernel
theorem dX1_walk_103 : decode cX1_walk 103 = .ok (.invokevirtual 124, 3) := by decide +kernel
theorem dX1_walk_106 : decode cX1_walk 106 = .ok (.iload 4, 2) := by decide +kernel
theorem dX1_walk_108 : decode cX1_walk 108 = .ok (.if_icmp .eq 13, 3) := by decide +kernel
theorem dX1_walk_111 : decode cX1_walk 111 = .ok (.aload_n 0, 1) := by decide +kernel
theorem dX1_walk_112 : decode cX1_walk 112 = .ok (.invokevirtual 121, 3) := by decide +kernel
theorem dX1_walk_115 : decode cX1_walk 115 = .ok (.iinc 5 1, 3) := by decide +kernel
theorem dX1_walk_118 : decode cX1_walk 118 = .ok (.goto (-24), 3) := by decide +kernel
theorem dX1_walk_121 : decode cX1_walk 121 = .ok (.aload_n 0, 1) := by decide +kernel
theorem dX1_walk_122 : decode cX1_walk 122 = .ok (.iload 4, 2) := by decide +kernel
theorem dX1_walk_124 : decode cX1_walk 124 = .ok (.putfield 128, 3) := by decide +kernel
theorem dX1_walk_127 : decode cX1_walk 127 = .ok (.aload_n 0, 1) := by decide +kernel
theorem dX1_walk_128 : decode cX1_walk 128 = .ok (.iload 5, 2) := by decide +kernel
theorem dX1_walk_130 : decode cX1_walk 130 = .ok (.putfield 131, 3) := by decide +kernel
theorem dX1_walk_133 : decode cX1_walk 133 = .ok (.aload_n 0, 1) := by decide +kernel
theorem dX1_walk_134 : decode cX1_walk 134 = .ok (.iload_n 3, 1) := by decide +kernel
theorem dX1_walk_135 : decode cX1_walk 135 = .ok (.iconst 1, 1) := by decide +kernel
theorem dX1_walk_136 : decode cX1_walk 136 = .ok (.iadd, 1) := by decide +kernel
theorem dX1_walk_137 : decode cX1_walk 137 = .ok (.iload 5, 2) := by decide +kernel
theorem dX1_walk_139 : decode cX1_walk 139 = .ok (.isub, 1) := by decide +kernel
theorem dX1_walk_140 : decode cX1_walk 140 = .ok (.putfield 134, 3) := by decide +kernel
theorem dX1_walk_143 : decode cX1_walk 143 = .ok (.return_, 1) := by decide +kernel
theorem dX1_walk_144 : decode cX1_walk 144 = .ok (.iload 4, 2) := by decide +kernel
theorem dX1_walk_146 : decode cX1_walk 146 = .ok (.istore_n 2, 1) := by decide +kernel
theorem dX1_walk_147 : decode cX1_walk 147 = .ok (.iinc 3 1, 3) := by decide +kernel
theorem dX1_walk_150 : decode cX1_walk 150 = .ok (.goto (-133), 3) := by decide +kernel
theorem dX1_walk_153 : decode cX1_walk 153 = .ok (.return_, 1) := by decide +kernel
theorem dX2_init_0 : decode cX2_init 0 = .ok (.aload_n 0, 1) := by decide +kernel
theorem dX2_init_1 : decode cX2_init 1 = .ok (.invokespecial 3, 3) := by decide +kernel
theorem dX2_init_4 : decode cX2_init 4 = .ok (.aload_n 0, 1) := by decide +kernel
theorem dX2_init_5 : decode cX2_init 5 = .ok (.iconst 4, 1) := by decide +kernel
theorem dX2_init_6 : decode cX2_init 6 = .ok (.newarray .int, 2) := by decide +kernel
theorem dX2_init_8 : decode cX2_init 8 = .ok (.dup, 1) := by decide +kernel
theorem dX2_init_9 : decode cX2_init 9 = .ok (.iconst 0, 1) := by decide +kernel
theorem dX2_init_10 : decode cX2_init 10 = .ok (.iconst (-1), 1) := by decide +kernel
theorem dX2_init_11 : decode cX2_init 11 = .ok (.iastore, 1) := by decide +kernel
theorem dX2_init_12 : decode cX2_init 12 = .ok (.dup, 1) := by decide +kernel
theorem dX2_init_13 : decode cX2_init 13 = .ok (.iconst 1, 1) := by decide +kernel
theorem dX2_init_14 : decode cX2_init 14 = .ok (.iconst (-1), 1) := by decide +kernel
theorem dX2_init_15 : decode cX2_init 15 = .ok (.iastore, 1) := by decide +kernel
theorem dX2_init_16 : decode cX2_init 16 = .ok (.dup, 1) := by decide +kernel
theorem dX2_init_17 : decode cX2_init 17 = .ok (.iconst 2, 1) := by decide +kernel
theorem dX2_init_18 : decode cX2_init 18 = .ok (.iconst (-1), 1) := by decide +kernel
theorem dX2_init_19 : decode cX2_init 19 = .ok (.iastore, 1) := by decide +kernel
theorem dX2_init_20 : decode cX2_init 20 = .ok (.dup, 1) := by decide +kernel
theorem dX2_init_21 : decode cX2_init 21 = .ok (.iconst 3, 1) := by decide +kernel
theorem dX2_init_22 : decode cX2_init 22 = .ok (.iconst (-1), 1) := by decide +kernel
theorem dX2_init_23 : decode cX2_init 23 = .ok (.iastore, 1) := by decide +kernel
theorem dX2_init_24 : decode cX2_init 24 = .ok (.putfield 9, 3) := by decide +kernel
theorem dX2_init_27 : decode cX2_init 27 = .ok (.aload_n 0, 1) := by decide +kernel
theorem dX2_init_28 : decode cX2_init 28 = .ok (.iconst 4, 1) := by decide +kernel
theorem dX2_init_29 : decode cX2_init 29 = .ok (.newarray .int, 2) := by decide +kernel
theorem dX2_init_31 : decode cX2_init 31 = .ok (.putfield 15, 3) := by decide +kernel
theorem dX2_init_34 : decode cX2_init 34 = .ok (.aload_n 0, 1) := by decide +kernel
theorem dX2_init_35 : decode cX2_init 35 = .ok (.sipush 160, 3) := by decide +kernel
theorem dX2_init_38 : decode cX2_init 38 = .ok (.newarray .int, 2) := by decide +kernel
theorem dX2_init_40 : decode cX2_init 40 = .ok (.putfield 18, 3) := by decide +kernel
theorem dX2_init_43 : decode cX2_init 43 = .ok (.aload_n 0, 1) := by decide +kernel
theorem dX2_init_44 : decode cX2_init 44 = .ok (.iconst 4, 1) := by decide +kernel
theorem dX2_init_45 : decode cX2_init 45 = .ok (.newarray .int, 2) := by decide +kernel
theorem dX2_init_47 : decode cX2_init 47 = .ok (.dup, 1) := by decide +kernel
theorem dX2_init_48 : decode cX2_init 48 = .ok (.iconst 0, 1) := by decide +kernel
theorem dX2_init_49 : decode cX2_init 49 = .ok (.iconst (-1), 1) := by decide +kernel
theorem dX2_init_50 : decode cX2_init 50 = .ok (.iastore, 1) := by decide +kernel
theorem dX2_init_51 : decode cX2_init 51 = .ok (.dup, 1) := by decide +kernel
theorem dX2_init_52 : decode cX2_init 52 = .ok (.iconst 1, 1) := by decide +kernel
theorem dX2_init_53 : decode cX2_init 53 = .ok (.iconst (-1), 1) := by decide +kernel
theorem dX2_init_54 : decode cX2_init 54 = .ok (.iastore, 1) := by decide +kernel
theorem dX2_init_55 : decode cX2_init 55 = .ok (.dup, 1) := by decide +kernel
theorem dX2_init_56 : decode cX2_init 56 = .ok (.iconst 2, 1) := by decide +kernel
theorem dX2_init_57 : decode cX2_init 57 = .ok (.iconst (-1), 1) := by decide +kernel
theorem dX2_init_58 : decode cX2_init 58 = .ok (.iastore, 1) := by decide +kernel
theorem dX2_init_59 : decode cX2_init 59 = .ok (.dup, 1) := by decide +kernel
theorem dX2_init_60 : decode cX2_init 60 = .ok (.iconst 3, 1) := by decide +kernel
theorem dX2_init_61 : decode cX2_init 61 = .ok (.iconst (-1), 1) := by decide +kernel
theorem dX2_init_62 : decode cX2_init 62 = .ok (.iastore, 1) := by decide +kernel
theorem dX2_init_63 : decode cX2_init 63 = .ok (.putfield 21, 3) := by decide +kernel
theorem dX2_init_66 : decode cX2_init 66 = .ok (.aload_n 0, 1) := by decide +kernel
theorem dX2_init_67 : decode cX2_init 67 = .ok (.iconst 4, 1) := by decide +kernel
theorem dX2_init_68 : decode cX2_init 68 = .ok (.newarray .int, 2) := by decide +kernel
theorem dX2_init_70 : decode cX2_init 70 = .ok (.dup, 1) := by decide +kernel
theorem dX2_init_71 : decode cX2_init 71 = .ok (.iconst 0, 1) := by decide +kernel
theorem dX2_init_72 : decode cX2_init 72 = .ok (.iconst (-1), 1) := by decide +kernel
theorem dX2_init_73 : decode cX2_init 73 = .ok (.iastore, 1) := by decide +kernel
theorem dX2_init_74 : decode cX2_init 74 = .ok (.dup, 1) := by decide +kernel
theorem dX2_init_75 : decode cX2_init 75 = .ok (.iconst 1, 1) := by decide +kernel
theorem dX2_init_76 : decode cX2_init 76 = .ok (.iconst (-1), 1) := by decide +kernel
theorem dX2_init_77 : decode cX2_init 77 = .ok (.iastore, 1) := by decide +kernel
theorem dX2_init_78 : decode cX2_init 78 = .ok (.dup, 1) := by decide +kernel
theorem dX2_init_79 : decode cX2_init 79 = .ok (.iconst 2, 1) := by decide +kernel
theorem dX2_init_80 : decode cX2_init 80 = .ok (.iconst (-1), 1) := by decide +kernel
theorem dX2_init_81 : decode cX2_init 81 = .ok (.iastore, 1) := by decide +kernel
theorem dX2_init_82 : decode cX2_init 82 = .ok (.dup, 1) := by decide +kernel
theorem dX2_init_83 : decode cX2_init 83 = .ok (.iconst 3, 1) := by decide +kernel
theorem dX2_init_84 : decode cX2_init 84 = .ok (.iconst (-1), 1) := by decide +kernel
theorem dX2_init_85 : decode cX2_init 85 = .ok (.iastore, 1) := by decide +kernel
theorem dX2_init_86 : decode cX2_init 86 = .ok (.putfield 24, 3) := by decide +kernel
theorem dX2_init_89 : decode cX2_init 89 = .ok (.aload_n 0, 1) := by decide +kernel
theorem dX2_init_90 : decode cX2_init 90 = .ok (.iconst 4, 1) := by decide +kernel
theorem dX2_init_91 : decode cX2_init 91 = .ok (.newarray .int, 2) := by decide +kernel
theorem dX2_init_93 : decode cX2_init 93 = .ok (.putfield 27, 3) := by decide +kernel
theorem dX2_init_96 : decode cX2_init 96 = .ok (.return_, 1) := by decide +kernel
theorem dX2_lay_0 : decode cX2_lay 0 = .ok (.aload_n 0, 1) := by decide +kernel
theorem dX2_lay_1 : decode cX2_lay 1 = .ok (.getfield 9, 3) := by decide +kernel
theorem dX2_lay_4 : decode cX2_lay 4 = .ok (.iload_n 1, 1) := by decide +kernel
theorem dX2_lay_5 : decode cX2_lay 5 = .ok (.iload_n 2, 1) := by decide +kernel
theorem dX2_lay_6 : decode cX2_lay 6 = .ok (.iastore, 1) := by decide +kernel
theorem dX2_lay_7 : decode cX2_lay 7 = .ok (.aload_n 0, 1) := by decide +kernel
theorem dX2_lay_8 : decode cX2_lay 8 = .ok (.getfield 15, 3) := by decide +kernel
theorem dX2_lay_11 : decode cX2_lay 11 = .ok (.iload_n 1, 1) := by decide +kernel
theorem dX2_lay_12 : decode cX2_lay 12 = .ok (.iload_n 2, 1) := by decide +kernel
theorem dX2_lay_13 : decode cX2_lay 13 = .ok (.ifCond .ge 7, 3) := by decide +kernel
theorem dX2_lay_16 : decode cX2_lay 16 = .ok (.iconst 0, 1) := by decide +kernel
theorem dX2_lay_17 : decode cX2_lay 17 = .ok (.goto 4, 3) := by decide +kernel
theorem dX2_lay_20 : decode cX2_lay 20 = .ok (.iload_n 3, 1) := by decide +kernel
theorem dX2_lay_21 : decode cX2_lay 21 = .ok (.iastore, 1) := by decide +kernel
theorem dX2_lay_22 : decode cX2_lay 22 = .ok (.iconst 0, 1) := by decide +kernel
theorem dX2_lay_23 : decode cX2_lay 23 = .ok (.istore 4, 2) := by decide +kernel
theorem dX2_lay_25 : decode cX2_lay 25 = .ok (.iload 4, 2) := by decide +kernel
theorem dX2_lay_27 : decode cX2_lay 27 = .ok (.bipush 40, 2) := by decide +kernel
theorem dX2_lay_29 : decode cX2_lay 29 = .ok (.if_icmp .ge 22, 3) := by decide +kernel
theorem dX2_lay_32 : decode cX2_lay 32 = .ok (.aload_n 0, 1) := by decide +kernel
theorem dX2_lay_33 : decode cX2_lay 33 = .ok (.getfield 18, 3) := by decide +kernel
theorem dX2_lay_36 : decode cX2_lay 36 = .ok (.iload_n 1, 1) := by decide +kernel
theorem dX2_lay_37 : decode cX2_lay 37 = .ok (.bipush 40, 2) := by decide +kernel
theorem dX2_lay_39 : decode cX2_lay 39 = .ok (.imul, 1) := by decide +kernel
theorem dX2_lay_40 : decode cX2_lay 40 = .ok (.iload 4, 2) := by decide +kernel
theorem dX2_lay_42 : decode cX2_lay 42 = .ok (.iadd, 1) := by decide +kernel
theorem dX2_lay_43 : decode cX2_lay 43 = .ok (.iconst 0, 1) := by decide +kernel
theorem dX2_lay_44 : decode cX2_lay 44 = .ok (.iastore, 1) := by decide +kernel
theorem dX2_lay_45 : decode cX2_lay 45 = .ok (.iinc 4 1, 3) := by decide +kernel
theorem dX2_lay_48 : decode cX2_lay 48 = .ok (.goto (-23), 3) := by decide +kernel
theorem dX2_lay_51 : decode cX2_lay 51 = .ok (.return_, 1) := by decide +kernel
theorem dX2_refusal_0 : decode cX2_refusal 0 = .ok (.aload_n 0, 1) := by decide +kernel
theorem dX2_refusal_1 : decode cX2_refusal 1 = .ok (.getfield 9, 3) := by decide +kernel
theorem dX2_refusal_4 : decode cX2_refusal 4 = .ok (.iload_n 1, 1) := by decide +kernel
theorem dX2_refusal_5 : decode cX2_refusal 5 = .ok (.iaload, 1) := by decide +kernel
theorem dX2_refusal_6 : decode cX2_refusal 6 = .ok (.ifCond .ge 6, 3) := by decide +kernel
theorem dX2_refusal_9 : decode cX2_refusal 9 = .ok (.bipush (-11), 2) := by decide +kernel
theorem dX2_refusal_11 : decode cX2_refusal 11 = .ok (.ireturn, 1) := by decide +kernel
theorem dX2_refusal_12 : decode cX2_refusal 12 = .ok (.aload_n 0, 1) := by decide +kernel
theorem dX2_refusal_13 : decode cX2_refusal 13 = .ok (.getfield 9, 3) := by decide +kernel
theorem dX2_refusal_16 : decode cX2_refusal 16 = .ok (.iload_n 1, 1) := by decide +kernel
theorem dX2_refusal_17 : decode cX2_refusal 17 = .ok (.iaload, 1) := by decide +kernel
theorem dX2_refusal_18 : decode cX2_refusal 18 = .ok (.iload_n 2, 1) := by decide +kernel
theorem dX2_refusal_19 : decode cX2_refusal 19 = .ok (.if_icmp .ne 7, 3) := by decide +kernel
theorem dX2_refusal_22 : decode cX2_refusal 22 = .ok (.iconst 0, 1) := by decide +kernel
theorem dX2_refusal_23 : decode cX2_refusal 23 = .ok (.goto 5, 3) := by decide +kernel
theorem dX2_refusal_26 : decode cX2_refusal 26 = .ok (.bipush (-13), 2) := by decide +kernel
theorem dX2_refusal_28 : decode cX2_refusal 28 = .ok (.ireturn, 1) := by decide +kernel
theorem dX2_hasItem_0 : decode cX2_hasItem 0 = .ok (.iload_n 2, 1) := by decide +kernel
theorem dX2_hasItem_1 : decode cX2_hasItem 1 = .ok (.iconst 0, 1) := by decide +kernel
theorem dX2_hasItem_2 : decode cX2_hasItem 2 = .ok (.aload_n 0, 1) := by decide +kernel
theorem dX2_hasItem_3 : decode cX2_hasItem 3 = .ok (.getfield 15, 3) := by decide +kernel
theorem dX2_hasItem_6 : decode cX2_hasItem 6 = .ok (.iload_n 1, 1) := by decide +kernel
theorem dX2_hasItem_7 : decode cX2_hasItem 7 = .ok (.iaload, 1) := by decide +kernel
theorem dX2_hasItem_8 : decode cX2_hasItem 8 = .ok (.iconst 1, 1) := by decide +kernel
theorem dX2_hasItem_9 : decode cX2_hasItem 9 = .ok (.isub, 1) := by decide +kernel
theorem dX2_hasItem_10 : decode cX2_hasItem 10 = .ok (.invokestatic 30, 3) := by decide +kernel
theorem dX2_hasItem_13 : decode cX2_hasItem 13 = .ok (.ireturn, 1) := by decide +kernel
theorem dX2_itemAt_0 : decode cX2_itemAt 0 = .ok (.aload_n 0, 1) := by decide +kernel
theorem dX2_itemAt_1 : decode cX2_itemAt 1 = .ok (.getfield 18, 3) := by decide +kernel
theorem dX2_itemAt_4 : decode cX2_itemAt 4 = .ok (.iload_n 1, 1) := by decide +kernel
theorem dX2_itemAt_5 : decode cX2_itemAt 5 = .ok (.bipush 40, 2) := by decide +kernel
theorem dX2_itemAt_7 : decode cX2_itemAt 7 = .ok (.imul, 1) := by decide +kernel
theorem dX2_itemAt_8 : decode cX2_itemAt 8 = .ok (.iload_n 2, 1) := by decide +kernel
theorem dX2_itemAt_9 : decode cX2_itemAt 9 = .ok (.iadd, 1) := by decide +kernel
theorem dX2_itemAt_10 : decode cX2_itemAt 10 = .ok (.iaload, 1) := by decide +kernel
theorem dX2_itemAt_11 : decode cX2_itemAt 11 = .ok (.ireturn, 1) := by decide +kernel
theorem dX2_write_0 : decode cX2_write 0 = .ok (.aload_n 0, 1) := by decide +kernel
theorem dX2_write_1 : decode cX2_write 1 = .ok (.getfield 18, 3) := by decide +kernel
theorem dX2_write_4 : decode cX2_write 4 = .ok (.iload_n 1, 1) := by decide +kernel
theorem dX2_write_5 : decode cX2_write 5 = .ok (.bipush 40, 2) := by decide +kernel
theorem dX2_write_7 : decode cX2_write 7 = .ok (.imul, 1) := by decide +kernel
theorem dX2_write_8 : decode cX2_write 8 = .ok (.iload_n 2, 1) := by decide +kernel
theorem dX2_write_9 : decode cX2_write 9 = .ok (.iadd, 1) := by decide +kernel
theorem dX2_write_10 : decode cX2_write 10 = .ok (.aload_n 0, 1) := by decide +kernel
theorem dX2_write_11 : decode cX2_write 11 = .ok (.getfield 9, 3) := by decide +kernel
theorem dX2_write_14 : decode cX2_write 14 = .ok (.iload_n 1, 1) := by decide +kernel
theorem dX2_write_15 : decode cX2_write 15 = .ok (.iaload, 1) := by decide +kernel
theorem dX2_write_16 : decode cX2_write 16 = .ok (.ifCond .ne 8, 3) := by decide +kernel
theorem dX2_write_19 : decode cX2_write 19 = .ok (.iload_n 3, 1) := by decide +kernel
theorem dX2_write_20 : decode cX2_write 20 = .ok (.i2b, 1) := by decide +kernel
theorem dX2_write_21 : decode cX2_write 21 = .ok (.goto 19, 3) := by decide +kernel
theorem dX2_write_24 : decode cX2_write 24 = .ok (.aload_n 0, 1) := by decide +kernel
theorem dX2_write_25 : decode cX2_write 25 = .ok (.getfield 9, 3) := by decide +kernel
theorem dX2_write_28 : decode cX2_write 28 = .ok (.iload_n 1, 1) := by decide +kernel
theorem dX2_write_29 : decode cX2_write 29 = .ok (.iaload, 1) := by decide +kernel
theorem dX2_write_30 : decode cX2_write 30 = .ok (.iconst 1, 1) := by decide +kernel
theorem dX2_write_31 : decode cX2_write 31 = .ok (.if_icmp .ne 8, 3) := by decide +kernel
theorem dX2_write_34 : decode cX2_write 34 = .ok (.iload_n 3, 1) := by decide +kernel
theorem dX2_write_35 : decode cX2_write 35 = .ok (.i2s, 1) := by decide +kernel
theorem dX2_write_36 : decode cX2_write 36 = .ok (.goto 4, 3) := by decide +kernel
theorem dX2_write_39 : decode cX2_write 39 = .ok (.iload_n 3, 1) := by decide +kernel
theorem dX2_write_40 : decode cX2_write 40 = .ok (.iastore, 1) := by decide +kernel
theorem dX2_write_41 : decode cX2_write 41 = .ok (.return_, 1) := by decide +kernel
theorem dX2_isTable_0 : decode cX2_isTable 0 = .ok (.aload_n 0, 1) := by decide +kernel
theorem dX2_isTable_1 : decode cX2_isTable 1 = .ok (.getfield 15, 3) := by decide +kernel
theorem dX2_isTable_4 : decode cX2_isTable 4 = .ok (.iload_n 1, 1) := by decide +kernel
theorem dX2_isTable_5 : decode cX2_isTable 5 = .ok (.iaload, 1) := by decide +kernel
theorem dX2_isTable_6 : decode cX2_isTable 6 = .ok (.bipush 21, 2) := by decide +kernel
theorem dX2_isTable_8 : decode cX2_isTable 8 = .ok (.if_icmp .eq 5, 3) := by decide +kernel
theorem dX2_isTable_11 : decode cX2_isTable 11 = .ok (.iconst 0, 1) := by decide +kernel
theorem dX2_isTable_12 : decode cX2_isTable 12 = .ok (.ireturn, 1) := by decide +kernel
theorem dX2_isTable_13 : decode cX2_isTable 13 = .ok (.iconst 0, 1) := by decide +kernel
theorem dX2_isTable_14 : decode cX2_isTable 14 = .ok (.istore_n 2, 1) := by decide +kernel
theorem dX2_isTable_15 : decode cX2_isTable 15 = .ok (.iload_n 2, 1) := by decide +kernel
theorem dX2_isTable_16 : decode cX2_isTable 16 = .ok (.bipush 21, 2) := by decide +kernel
theorem dX2_isTable_18 : decode cX2_isTable 18 = .ok (.if_icmp .ge 26, 3) := by decide +kernel
theorem dX2_isTable_21 : decode cX2_isTable 21 = .ok (.aload_n 0, 1) := by decide +kernel
theorem dX2_isTable_22 : decode cX2_isTable 22 = .ok (.iload_n 1, 1) := by decide +kernel
theorem dX2_isTable_23 : decode cX2_isTable 23 = .ok (.iload_n 2, 1) := by decide +kernel
theorem dX2_isTable_24 : decode cX2_isTable 24 = .ok (.invokevirtual 34, 3) := by decide +kernel
theorem dX2_isTable_27 : decode cX2_isTable 27 = .ok (.iconst 0, 1) := by decide +kernel
theorem dX2_isTable_28 : decode cX2_isTable 28 = .ok (.bipush 30, 2) := by decide +kernel
theorem dX2_isTable_30 : decode cX2_isTable 30 = .ok (.invokestatic 30, 3) := by decide +kernel
theorem dX2_isTable_33 : decode cX2_isTable 33 = .ok (.ifCond .ne 5, 3) := by decide +kernel
theorem dX2_isTable_36 : decode cX2_isTable 36 = .ok (.iconst 0, 1) := by decide +kernel
theorem dX2_isTable_37 : decode cX2_isTable 37 = .ok (.ireturn, 1) := by decide +kernel
theorem dX2_isTable_38 : decode cX2_isTable 38 = .ok (.iinc 2 1, 3) := by decide +kernel
theorem dX2_isTable_41 : decode cX2_isTable 41 = .ok (.goto (-26), 3) := by decide +kernel
theorem dX2_isTable_44 : decode cX2_isTable 44 = .ok (.iconst 1, 1) := by decide +kernel
theorem dX2_isTable_45 : decode cX2_isTable 45 = .ok (.ireturn, 1) := by decide +kernel
theorem dX2_holdNothing_0 : decode cX2_holdNothing 0 = .ok (.aload_n 0, 1) := by decide +kernel
theorem dX2_holdNothing_1 : decode cX2_holdNothing 1 = .ok (.getfield 21, 3) := by decide +kernel
theorem dX2_holdNothing_4 : decode cX2_holdNothing 4 = .ok (.iload_n 1, 1) := by decide +kernel
theorem dX2_holdNothing_5 : decode cX2_holdNothing 5 = .ok (.iconst (-1), 1) := by decide +kernel
theorem dX2_holdNothing_6 : decode cX2_holdNothing 6 = .ok (.iastore, 1) := by decide +kernel
theorem dX2_holdNothing_7 : decode cX2_holdNothing 7 = .ok (.aload_n 0, 1) := by decide +kernel
theorem dX2_holdNothing_8 : decode cX2_holdNothing 8 = .ok (.getfield 24, 3) := by decide +kernel
theorem dX2_holdNothing_11 : decode cX2_holdNothing 11 = .ok (.iload_n 1, 1) := by decide +kernel
theorem dX2_holdNothing_12 : decode cX2_holdNothing 12 = .ok (.iconst (-1), 1) := by decide +kernel
theorem dX2_holdNothing_13 : decode cX2_holdNothing 13 = .ok (.iastore, 1) := by decide +kernel
theorem dX2_holdNothing_14 : decode cX2_holdNothing 14 = .ok (.return_, 1) := by decide +kernel
theorem dX2_holdPart_0 : decode cX2_holdPart 0 = .ok (.aload_n 0, 1) := by decide +kernel
theorem dX2_holdPart_1 : decode cX2_holdPart 1 = .ok (.getfield 21, 3) := by decide +kernel
theorem dX2_holdPart_4 : decode cX2_holdPart 4 = .ok (.iload_n 1, 1) := by decide +kernel
theorem dX2_holdPart_5 : decode cX2_holdPart 5 = .ok (.iload_n 2, 1) := by decide +kernel
theorem dX2_holdPart_6 : decode cX2_holdPart 6 = .ok (.iastore, 1) := by decide +kernel
theorem dX2_holdPart_7 : decode cX2_holdPart 7 = .ok (.aload_n 0, 1) := by decide +kernel
theorem dX2_holdPart_8 : decode cX2_holdPart 8 = .ok (.getfield 24, 3) := by decide +kernel
theorem dX2_holdPart_11 : decode cX2_holdPart 11 = .ok (.iload_n 1, 1) := by decide +kernel
theorem dX2_holdPart_12 : decode cX2_holdPart 12 = .ok (.iconst (-1), 1) := by decide +kernel
theorem dX2_holdPart_13 : decode cX2_holdPart 13 = .ok (.iastore, 1) := by decide +kernel
theorem dX2_holdPart_14 : decode cX2_holdPart 14 = .ok (.return_, 1) := by decide +kernel
theorem dX2_holdRow_0 : decode cX2_holdRow 0 = .ok (.aload_n 0, 1) := by decide +kernel
theorem dX2_holdRow_1 : decode cX2_holdRow 1 = .ok (.getfield 21, 3) := by decide +kernel
theorem dX2_holdRow_4 : decode cX2_holdRow 4 = .ok (.iload_n 1, 1) := by decide +kernel
theorem dX2_holdRow_5 : decode cX2_holdRow 5 = .ok (.iconst (-1), 1) := by decide +kernel
theorem dX2_holdRow_6 : decode cX2_holdRow 6 = .ok (.iastore, 1) := by decide +kernel
theorem dX2_holdRow_7 : decode cX2_holdRow 7 = .ok (.aload_n 0, 1) := by decide +kernel
theorem dX2_holdRow_8 : decode cX2_holdRow 8 = .ok (.getfield 24, 3) := by decide +kernel
theorem dX2_holdRow_11 : decode cX2_holdRow 11 = .ok (.iload_n 1, 1) := by decide +kernel
theorem dX2_holdRow_12 : decode cX2_holdRow 12 = .ok (.aload_n 0, 1) := by decide +kernel
theorem dX2_holdRow_13 : decode cX2_holdRow 13 = .ok (.getfield 9, 3) := by decide +kernel
theorem dX2_holdRow_16 : decode cX2_holdRow 16 = .ok (.iload_n 2, 1) := by decide +kernel
theorem dX2_holdRow_17 : decode cX2_holdRow 17 = .ok (.iaload, 1) := by decide +kernel
theorem dX2_holdRow_18 : decode cX2_holdRow 18 = .ok (.iastore, 1) := by decide +kernel
theorem dX2_holdRow_19 : decode cX2_holdRow 19 = .ok (.aload_n 0, 1) := by decide +kernel
theorem dX2_holdRow_20 : decode cX2_holdRow 20 = .ok (.getfield 27, 3) := by decide +kernel
theorem dX2_holdRow_23 : decode cX2_holdRow 23 = .ok (.iload_n 1, 1) := by decide +kernel
theorem dX2_holdRow_24 : decode cX2_holdRow 24 = .ok (.aload_n 0, 1) := by decide +kernel
theorem dX2_holdRow_25 : decode cX2_holdRow 25 = .ok (.getfield 15, 3) := by decide +kernel
theorem dX2_holdRow_28 : decode cX2_holdRow 28 = .ok (.iload_n 2, 1) := by decide +kernel
theorem dX2_holdRow_29 : decode cX2_holdRow 29 = .ok (.iaload, 1) := by decide +kernel
theorem dX2_holdRow_30 : decode cX2_holdRow 30 = .ok (.iastore, 1) := by decide +kernel
theorem dX2_holdRow_31 : decode cX2_holdRow 31 = .ok (.return_, 1) := by decide +kernel
theorem dX2_holdsRow_0 : decode cX2_holdsRow 0 = .ok (.aload_n 0, 1) := by decide +kernel
theorem dX2_holdsRow_1 : decode cX2_holdsRow 1 = .ok (.getfield 24, 3) := by decide +kernel
theorem dX2_holdsRow_4 : decode cX2_holdsRow 4 = .ok (.iload_n 1, 1) := by decide +kernel
theorem dX2_holdsRow_5 : decode cX2_holdsRow 5 = .ok (.iaload, 1) := by decide +kernel
theorem dX2_holdsRow_6 : decode cX2_holdsRow 6 = .ok (.ifCond .lt 7, 3) := by decide +kernel
theorem dX2_holdsRow_9 : decode cX2_holdsRow 9 = .ok (.iconst 1, 1) := by decide +kernel
theorem dX2_holdsRow_10 : decode cX2_holdsRow 10 = .ok (.goto 4, 3) := by decide +kernel
theorem dX2_holdsRow_13 : decode cX2_holdsRow 13 = .ok (.iconst 0, 1) := by decide +kernel
theorem dX2_holdsRow_14 : decode cX2_holdsRow 14 = .ok (.ireturn, 1) := by decide +kernel
theorem dX3_init_0 : decode cX3_init 0 = .ok (.aload_n 0, 1) := by decide +kernel
theorem dX3_init_1 : decode cX3_init 1 = .ok (.invokespecial 3, 3) := by decide +kernel
theorem dX3_init_4 : decode cX3_init 4 = .ok (.return_, 1) := by decide +kernel
theorem dX3_become_0 : decode cX3_become 0 = .ok (.aload_n 0, 1) := by decide +kernel
theorem dX3_become_1 : decode cX3_become 1 = .ok (.iload_n 1, 1) := by decide +kernel
theorem dX3_become_2 : decode cX3_become 2 = .ok (.putfield 9, 3) := by decide +kernel
theorem dX3_become_5 : decode cX3_become 5 = .ok (.aload_n 0, 1) := by decide +kernel
theorem dX3_become_6 : decode cX3_become 6 = .ok (.iload_n 2, 1) := by decide +kernel
theorem dX3_become_7 : decode cX3_become 7 = .ok (.bipush 10, 2) := by decide +kernel
theorem dX3_become_9 : decode cX3_become 9 = .ok (.idiv, 1) := by decide +kernel
theorem dX3_become_10 : decode cX3_become 10 = .ok (.putfield 15, 3) := by decide +kernel
theorem dX3_become_13 : decode cX3_become 13 = .ok (.aload_n 0, 1) := by decide +kernel
theorem dX3_become_14 : decode cX3_become 14 = .ok (.iload_n 2, 1) := by decide +kernel
theorem dX3_become_15 : decode cX3_become 15 = .ok (.bipush 10, 2) := by decide +kernel
theorem dX3_become_17 : decode cX3_become 17 = .ok (.irem, 1) := by decide +kernel
theorem dX3_become_18 : decode cX3_become 18 = .ok (.putfield 18, 3) := by decide +kernel
theorem dX3_become_21 : decode cX3_become 21 = .ok (.aload_n 0, 1) := by decide +kernel
theorem dX3_become_22 : decode cX3_become 22 = .ok (.iload_n 3, 1) := by decide +kernel
theorem dX3_become_23 : decode cX3_become 23 = .ok (.putfield 21, 3) := by decide +kernel
theorem dX3_become_26 : decode cX3_become 26 = .ok (.aload_n 0, 1) := by decide +kernel
theorem dX3_become_27 : decode cX3_become 27 = .ok (.iconst 0, 1) := by decide +kernel
theorem dX3_become_28 : decode cX3_become 28 = .ok (.putfield 24, 3) := by decide +kernel
theorem dX3_become_31 : decode cX3_become 31 = .ok (.aload_n 0, 1) := by decide +kernel
theorem dX3_become_32 : decode cX3_become 32 = .ok (.aload_n 0, 1) := by decide +kernel
theorem dX3_become_33 : decode cX3_become 33 = .ok (.getfield 9, 3) := by decide +kernel
theorem dX3_become_36 : decode cX3_become 36 = .ok (.invokestatic 27, 3) := by decide +kernel
theorem dX3_become_39 : decode cX3_become 39 = .ok (.ifCond .eq 11, 3) := by decide +kernel
theorem dX3_become_42 : decode cX3_become 42 = .ok (.iload 4, 2) := by decide +kernel
theorem dX3_become_44 : decode cX3_become 44 = .ok (.bipush 100, 2) := by decide +kernel
theorem dX3_become_46 : decode cX3_become 46 = .ok (.idiv, 1) := by decide +kernel
theorem dX3_become_47 : decode cX3_become 47 = .ok (.goto 5, 3) := by decide +kernel
theorem dX3_become_50 : decode cX3_become 50 = .ok (.bipush (-9), 2) := by decide +kernel
theorem dX3_become_52 : decode cX3_become 52 = .ok (.putfield 31, 3) := by decide +kernel
theorem dX3_become_55 : decode cX3_become 55 = .ok (.aload_n 0, 1) := by decide +kernel
theorem dX3_become_56 : decode cX3_become 56 = .ok (.aload_n 0, 1) := by decide +kernel
theorem dX3_become_57 : decode cX3_become 57 = .ok (.getfield 9, 3) := by decide +kernel
theorem dX3_become_60 : decode cX3_become 60 = .ok (.invokestatic 27, 3) := by decide +kernel
theorem dX3_become_63 : decode cX3_become 63 = .ok (.ifCond .eq 14, 3) := by decide +kernel
theorem dX3_become_66 : decode cX3_become 66 = .ok (.iload 4, 2) := by decide +kernel
theorem dX3_become_68 : decode cX3_become 68 = .ok (.bipush 10, 2) := by decide +kernel
theorem dX3_become_70 : decode cX3_become 70 = .ok (.idiv, 1) := by decide +kernel
theorem dX3_become_71 : decode cX3_become 71 = .ok (.bipush 10, 2) := by decide +kernel
theorem dX3_become_73 : decode cX3_become 73 = .ok (.irem, 1) := by decide +kernel
theorem dX3_become_74 : decode cX3_become 74 = .ok (.goto 5, 3) := by decide +kernel
theorem dX3_become_77 : decode cX3_become 77 = .ok (.bipush (-9), 2) := by decide +kernel
theorem dX3_become_79 : decode cX3_become 79 = .ok (.putfield 34, 3) := by decide +kernel
theorem dX3_become_82 : decode cX3_become 82 = .ok (.aload_n 0, 1) := by decide +kernel
theorem dX3_become_83 : decode cX3_become 83 = .ok (.aload_n 0, 1) := by decide +kernel
theorem dX3_become_84 : decode cX3_become 84 = .ok (.getfield 9, 3) := by decide +kernel
theorem dX3_become_87 : decode cX3_become 87 = .ok (.invokestatic 27, 3) := by decide +kernel
theorem dX3_become_90 : decode cX3_become 90 = .ok (.ifCond .eq 11, 3) := by decide +kernel
theorem dX3_become_93 : decode cX3_become 93 = .ok (.iload 4, 2) := by decide +kernel
theorem dX3_become_95 : decode cX3_become 95 = .ok (.bipush 10, 2) := by decide +kernel
theorem dX3_become_97 : decode cX3_become 97 = .ok (.irem, 1) := by decide +kernel
theorem dX3_become_98 : decode cX3_become 98 = .ok (.goto 5, 3) := by decide +kernel
theorem dX3_become_101 : decode cX3_become 101 = .ok (.bipush (-9), 2) := by decide +kernel
theorem dX3_become_103 : decode cX3_become 103 = .ok (.putfield 37, 3) := by decide +kernel
theorem dX3_become_106 : decode cX3_become 106 = .ok (.aload_n 0, 1) := by decide +kernel
theorem dX3_become_107 : decode cX3_become 107 = .ok (.aload_n 0, 1) := by decide +kernel
theorem dX3_become_108 : decode cX3_become 108 = .ok (.getfield 9, 3) := by decide +kernel
theorem dX3_become_111 : decode cX3_become 111 = .ok (.invokestatic 40, 3) := by decide +kernel
theorem dX3_become_114 : decode cX3_become 114 = .ok (.ifCond .eq 11, 3) := by decide +kernel
theorem dX3_become_117 : decode cX3_become 117 = .ok (.iload 5, 2) := by decide +kernel
theorem dX3_become_119 : decode cX3_become 119 = .ok (.bipush 10, 2) := by decide +kernel
theorem dX3_become_121 : decode cX3_become 121 = .ok (.irem, 1) := by decide +kernel
theorem dX3_become_122 : decode cX3_become 122 = .ok (.goto 5, 3) := by decide +kernel
theorem dX3_become_125 : decode cX3_become 125 = .ok (.bipush (-9), 2) := by decide +kernel
theorem dX3_become_127 : decode cX3_become 127 = .ok (.putfield 43, 3) := by decide +kernel
theorem dX3_become_130 : decode cX3_become 130 = .ok (.aload_n 0, 1) := by decide +kernel
theorem dX3_become_131 : decode cX3_become 131 = .ok (.aload_n 0, 1) := by decide +kernel
theorem dX3_become_132 : decode cX3_become 132 = .ok (.getfield 9, 3) := by decide +kernel
theorem dX3_become_135 : decode cX3_become 135 = .ok (.iconst 3, 1) := by decide +kernel
theorem dX3_become_136 : decode cX3_become 136 = .ok (.if_icmp .ne 11, 3) := by decide +kernel
theorem dX3_become_139 : decode cX3_become 139 = .ok (.iload 5, 2) := by decide +kernel
theorem dX3_become_141 : decode cX3_become 141 = .ok (.bipush 10, 2) := by decide +kernel
theorem dX3_become_143 : decode cX3_become 143 = .ok (.idiv, 1) := by decide +kernel
theorem dX3_become_144 : decode cX3_become 144 = .ok (.goto 5, 3) := by decide +kernel
theorem dX3_become_147 : decode cX3_become 147 = .ok (.bipush (-9), 2) := by decide +kernel
theorem dX3_become_149 : decode cX3_become 149 = .ok (.putfield 46, 3) := by decide +kernel
theorem dX3_become_152 : decode cX3_become 152 = .ok (.aload_n 0, 1) := by decide +kernel
theorem dX3_become_153 : decode cX3_become 153 = .ok (.iconst 0, 1) := by decide +kernel
theorem dX3_become_154 : decode cX3_become 154 = .ok (.putfield 49, 3) := by decide +kernel
theorem dX3_become_157 : decode cX3_become 157 = .ok (.aload_n 0, 1) := by decide +kernel
theorem dX3_become_158 : decode cX3_become 158 = .ok (.iconst 0, 1) := by decide +kernel
theorem dX3_become_159 : decode cX3_become 159 = .ok (.putfield 52, 3) := by decide +kernel
theorem dX3_become_162 : decode cX3_become 162 = .ok (.return_, 1) := by decide +kernel
theorem dX3_copyFrom_0 : decode cX3_copyFrom 0 = .ok (.aload_n 0, 1) := by decide +kernel
theorem dX3_copyFrom_1 : decode cX3_copyFrom 1 = .ok (.aload_n 1, 1) := by decide +kernel
theorem dX3_copyFrom_2 : decode cX3_copyFrom 2 = .ok (.getfield 9, 3) := by decide +kernel
theorem dX3_copyFrom_5 : decode cX3_copyFrom 5 = .ok (.putfield 9, 3) := by decide +kernel
theorem dX3_copyFrom_8 : decode cX3_copyFrom 8 = .ok (.aload_n 0, 1) := by decide +kernel
theorem dX3_copyFrom_9 : decode cX3_copyFrom 9 = .ok (.aload_n 1, 1) := by decide +kernel
theorem dX3_copyFrom_10 : decode cX3_copyFrom 10 = .ok (.getfield 15, 3) := by decide +kernel
theorem dX3_copyFrom_13 : decode cX3_copyFrom 13 = .ok (.putfield 15, 3) := by decide +kernel
theorem dX3_copyFrom_16 : decode cX3_copyFrom 16 = .ok (.aload_n 0, 1) := by decide +kernel
theorem dX3_copyFrom_17 : decode cX3_copyFrom 17 = .ok (.aload_n 1, 1) := by decide +kernel
theorem dX3_copyFrom_18 : decode cX3_copyFrom 18 = .ok (.getfield 18, 3) := by decide +kernel
theorem dX3_copyFrom_21 : decode cX3_copyFrom 21 = .ok (.putfield 18, 3) := by decide +kernel
theorem dX3_copyFrom_24 : decode cX3_copyFrom 24 = .ok (.aload_n 0, 1) := by decide +kernel
theorem dX3_copyFrom_25 : decode cX3_copyFrom 25 = .ok (.aload_n 1, 1) := by decide +kernel
theorem dX3_copyFrom_26 : decode cX3_copyFrom 26 = .ok (.getfield 21, 3) := by decide +kernel
theorem dX3_copyFrom_29 : decode cX3_copyFrom 29 = .ok (.putfield 21, 3) := by decide +kernel
theorem dX3_copyFrom_32 : decode cX3_copyFrom 32 = .ok (.aload_n 0, 1) := by decide +kernel
theorem dX3_copyFrom_33 : decode cX3_copyFrom 33 = .ok (.aload_n 1, 1) := by decide +kernel
theorem dX3_copyFrom_34 : decode cX3_copyFrom 34 = .ok (.getfield 24, 3) := by decide +kernel
theorem dX3_copyFrom_37 : decode cX3_copyFrom 37 = .ok (.putfield 24, 3) := by decide +kernel
theorem dX3_copyFrom_40 : decode cX3_copyFrom 40 = .ok (.aload_n 0, 1) := by decide +kernel
theorem dX3_copyFrom_41 : decode cX3_copyFrom 41 = .ok (.aload_n 1, 1) := by decide +kernel
theorem dX3_copyFrom_42 : decode cX3_copyFrom 42 = .ok (.getfield 31, 3) := by decide +kernel
theorem dX3_copyFrom_45 : decode cX3_copyFrom 45 = .ok (.putfield 31, 3) := by decide +kernel
theorem dX3_copyFrom_48 : decode cX3_copyFrom 48 = .ok (.aload_n 0, 1) := by decide +kernel
theorem dX3_copyFrom_49 : decode cX3_copyFrom 49 = .ok (.aload_n 1, 1) := by decide +kernel
theorem dX3_copyFrom_50 : decode cX3_copyFrom 50 = .ok (.getfield 34, 3) := by decide +kernel
theorem dX3_copyFrom_53 : decode cX3_copyFrom 53 = .ok (.putfield 34, 3) := by decide +kernel
theorem dX3_copyFrom_56 : decode cX3_copyFrom 56 = .ok (.aload_n 0, 1) := by decide +kernel
theorem dX3_copyFrom_57 : decode cX3_copyFrom 57 = .ok (.aload_n 1, 1) := by decide +kernel
theorem dX3_copyFrom_58 : decode cX3_copyFrom 58 = .ok (.getfield 37, 3) := by decide +kernel
theorem dX3_copyFrom_61 : decode cX3_copyFrom 61 = .ok (.putfield 37, 3) := by decide +kernel
theorem dX3_copyFrom_64 : decode cX3_copyFrom 64 = .ok (.aload_n 0, 1) := by decide +kernel
theorem dX3_copyFrom_65 : decode cX3_copyFrom 65 = .ok (.aload_n 1, 1) := by decide +kernel
theorem dX3_copyFrom_66 : decode cX3_copyFrom 66 = .ok (.getfield 43, 3) := by decide +kernel
theorem dX3_copyFrom_69 : decode cX3_copyFrom 69 = .ok (.putfield 43, 3) := by decide +kernel
theorem dX3_copyFrom_72 : decode cX3_copyFrom 72 = .ok (.aload_n 0, 1) := by decide +kernel
theorem dX3_copyFrom_73 : decode cX3_copyFrom 73 = .ok (.aload_n 1, 1) := by decide +kernel
theorem dX3_copyFrom_74 : decode cX3_copyFrom 74 = .ok (.getfield 46, 3) := by decide +kernel
theorem dX3_copyFrom_77 : decode cX3_copyFrom 77 = .ok (.putfield 46, 3) := by decide +kernel
theorem dX3_copyFrom_80 : decode cX3_copyFrom 80 = .ok (.aload_n 0, 1) := by decide +kernel
theorem dX3_copyFrom_81 : decode cX3_copyFrom 81 = .ok (.aload_n 1, 1) := by decide +kernel
theorem dX3_copyFrom_82 : decode cX3_copyFrom 82 = .ok (.getfield 49, 3) := by decide +kernel
theorem dX3_copyFrom_85 : decode cX3_copyFrom 85 = .ok (.putfield 49, 3) := by decide +kernel
theorem dX3_copyFrom_88 : decode cX3_copyFrom 88 = .ok (.aload_n 0, 1) := by decide +kernel
theorem dX3_copyFrom_89 : decode cX3_copyFrom 89 = .ok (.aload_n 1, 1) := by decide +kernel
theorem dX3_copyFrom_90 : decode cX3_copyFrom 90 = .ok (.getfield 52, 3) := by decide +kernel
theorem dX3_copyFrom_93 : decode cX3_copyFrom 93 = .ok (.putfield 52, 3) := by decide +kernel
theorem dX3_copyFrom_96 : decode cX3_copyFrom 96 = .ok (.return_, 1) := by decide +kernel
theorem dX3_told_0 : decode cX3_told 0 = .ok (.iload_n 1, 1) := by decide +kernel
theorem dX3_told_1 : decode cX3_told 1 = .ok (.tableswitch 104 0 8 #[51, 56, 69, 74, 79, 84, 89, 94, 99], 51) := by decide +kernel
theorem dX3_told_52 : decode cX3_told 52 = .ok (.aload_n 0, 1) := by decide +kernel
theorem dX3_told_53 : decode cX3_told 53 = .ok (.getfield 9, 3) := by decide +kernel
theorem dX3_told_56 : decode cX3_told 56 = .ok (.ireturn, 1) := by decide +kernel
theorem dX3_told_57 : decode cX3_told 57 = .ok (.aload_n 0, 1) := by decide +kernel
theorem dX3_told_58 : decode cX3_told 58 = .ok (.getfield 15, 3) := by decide +kernel
theorem dX3_told_61 : decode cX3_told 61 = .ok (.bipush 10, 2) := by decide +kernel
theorem dX3_told_63 : decode cX3_told 63 = .ok (.imul, 1) := by decide +kernel
theorem dX3_told_64 : decode cX3_told 64 = .ok (.aload_n 0, 1) := by decide +kernel
theorem dX3_told_65 : decode cX3_told 65 = .ok (.getfield 18, 3) := by decide +kernel
theorem dX3_told_68 : decode cX3_told 68 = .ok (.iadd, 1) := by decide +kernel
theorem dX3_told_69 : decode cX3_told 69 = .ok (.ireturn, 1) := by decide +kernel
theorem dX3_told_70 : decode cX3_told 70 = .ok (.aload_n 0, 1) := by decide +kernel
theorem dX3_told_71 : decode cX3_told 71 = .ok (.getfield 21, 3) := by decide +kernel
theorem dX3_told_74 : decode cX3_told 74 = .ok (.ireturn, 1) := by decide +kernel
theorem dX3_told_75 : decode cX3_told 75 = .ok (.aload_n 0, 1) := by decide +kernel
theorem dX3_told_76 : decode cX3_told 76 = .ok (.getfield 24, 3) := by decide +kernel
theorem dX3_told_79 : decode cX3_told 79 = .ok (.ireturn, 1) := by decide +kernel
theorem dX3_told_80 : decode cX3_told 80 = .ok (.aload_n 0, 1) := by decide +kernel
theorem dX3_told_81 : decode cX3_told 81 = .ok (.getfield 31, 3) := by decide +kernel
theorem dX3_told_84 : decode cX3_told 84 = .ok (.ireturn, 1) := by decide +kernel
theorem dX3_told_85 : decode cX3_told 85 = .ok (.aload_n 0, 1) := by decide +kernel
theorem dX3_told_86 : decode cX3_told 86 = .ok (.getfield 34, 3) := by decide +kernel
theorem dX3_told_89 : decode cX3_told 89 = .ok (.ireturn, 1) := by decide +kernel
theorem dX3_told_90 : decode cX3_told 90 = .ok (.aload_n 0, 1) := by decide +kernel
theorem dX3_told_91 : decode cX3_told 91 = .ok (.getfield 37, 3) := by decide +kernel
theorem dX3_told_94 : decode cX3_told 94 = .ok (.ireturn, 1) := by decide +kernel
theorem dX3_told_95 : decode cX3_told 95 = .ok (.aload_n 0, 1) := by decide +kernel
theorem dX3_told_96 : decode cX3_told 96 = .ok (.getfield 43, 3) := by decide +kernel
theorem dX3_told_99 : decode cX3_told 99 = .ok (.ireturn, 1) := by decide +kernel
theorem dX3_told_100 : decode cX3_told 100 = .ok (.aload_n 0, 1) := by decide +kernel
theorem dX3_told_101 : decode cX3_told 101 = .ok (.getfield 46, 3) := by decide +kernel
theorem dX3_told_104 : decode cX3_told 104 = .ok (.ireturn, 1) := by decide +kernel
theorem dX3_told_105 : decode cX3_told 105 = .ok (.iconst (-1), 1) := by decide +kernel
theorem dX3_told_106 : decode cX3_told 106 = .ok (.ireturn, 1) := by decide +kernel
theorem dX3_isOpen_0 : decode cX3_isOpen 0 = .ok (.aload_n 0, 1) := by decide +kernel
theorem dX3_isOpen_1 : decode cX3_isOpen 1 = .ok (.getfield 52, 3) := by decide +kernel
theorem dX3_isOpen_4 : decode cX3_isOpen 4 = .ok (.ifCond .eq 7, 3) := by decide +kernel
theorem dX3_isOpen_7 : decode cX3_isOpen 7 = .ok (.iconst 1, 1) := by decide +kernel
theorem dX3_isOpen_8 : decode cX3_isOpen 8 = .ok (.goto 4, 3) := by decide +kernel
theorem dX3_isOpen_11 : decode cX3_isOpen 11 = .ok (.iconst 0, 1) := by decide +kernel
theorem dX3_isOpen_12 : decode cX3_isOpen 12 = .ok (.ireturn, 1) := by decide +kernel
theorem dX3_thing_0 : decode cX3_thing 0 = .ok (.aload_n 0, 1) := by decide +kernel
theorem dX3_thing_1 : decode cX3_thing 1 = .ok (.getfield 24, 3) := by decide +kernel
theorem dX3_thing_4 : decode cX3_thing 4 = .ok (.ifCond .ne 10, 3) := by decide +kernel
theorem dX3_thing_7 : decode cX3_thing 7 = .ok (.aload_n 0, 1) := by decide +kernel
theorem dX3_thing_8 : decode cX3_thing 8 = .ok (.getfield 9, 3) := by decide +kernel
theorem dX3_thing_11 : decode cX3_thing 11 = .ok (.goto 5, 3) := by decide +kernel
theorem dX3_thing_14 : decode cX3_thing 14 = .ok (.bipush 6, 2) := by decide +kernel
theorem dX3_thing_16 : decode cX3_thing 16 = .ok (.ireturn, 1) := by decide +kernel
theorem dX3_suffer_0 : decode cX3_suffer 0 = .ok (.iload_n 1, 1) := by decide +kernel
theorem dX3_suffer_1 : decode cX3_suffer 1 = .ok (.ifCond .ne 11, 3) := by decide +kernel
theorem dX3_suffer_4 : decode cX3_suffer 4 = .ok (.aload_n 0, 1) := by decide +kernel
theorem dX3_suffer_5 : decode cX3_suffer 5 = .ok (.iconst 1, 1) := by decide +kernel
theorem dX3_suffer_6 : decode cX3_suffer 6 = .ok (.putfield 24, 3) := by decide +kernel
theorem dX3_suffer_9 : decode cX3_suffer 9 = .ok (.goto 40, 3) := by decide +kernel
theorem dX3_suffer_12 : decode cX3_suffer 12 = .ok (.iload_n 1, 1) := by decide +kernel
theorem dX3_suffer_13 : decode cX3_suffer 13 = .ok (.iconst 1, 1) := by decide +kernel
theorem dX3_suffer_14 : decode cX3_suffer 14 = .ok (.if_icmp .ne 24, 3) := by decide +kernel
theorem dX3_suffer_17 : decode cX3_suffer 17 = .ok (.aload_n 0, 1) := by decide +kernel
theorem dX3_suffer_18 : decode cX3_suffer 18 = .ok (.getfield 15, 3) := by decide +kernel
theorem dX3_suffer_21 : decode cX3_suffer 21 = .ok (.istore_n 2, 1) := by decide +kernel
theorem dX3_suffer_22 : decode cX3_suffer 22 = .ok (.aload_n 0, 1) := by decide +kernel
theorem dX3_suffer_23 : decode cX3_suffer 23 = .ok (.aload_n 0, 1) := by decide +kernel
theorem dX3_suffer_24 : decode cX3_suffer 24 = .ok (.getfield 18, 3) := by decide +kernel
theorem dX3_suffer_27 : decode cX3_suffer 27 = .ok (.putfield 15, 3) := by decide +kernel
theorem dX3_suffer_30 : decode cX3_suffer 30 = .ok (.aload_n 0, 1) := by decide +kernel
theorem dX3_suffer_31 : decode cX3_suffer 31 = .ok (.iload_n 2, 1) := by decide +kernel
theorem dX3_suffer_32 : decode cX3_suffer 32 = .ok (.putfield 18, 3) := by decide +kernel
theorem dX3_suffer_35 : decode cX3_suffer 35 = .ok (.goto 14, 3) := by decide +kernel
theorem dX3_suffer_38 : decode cX3_suffer 38 = .ok (.aload_n 0, 1) := by decide +kernel
theorem dX3_suffer_39 : decode cX3_suffer 39 = .ok (.bipush 10, 2) := by decide +kernel
theorem dX3_suffer_41 : decode cX3_suffer 41 = .ok (.aload_n 0, 1) := by decide +kernel
theorem dX3_suffer_42 : decode cX3_suffer 42 = .ok (.getfield 21, 3) := by decide +kernel
theorem dX3_suffer_45 : decode cX3_suffer 45 = .ok (.isub, 1) := by decide +kernel
theorem dX3_suffer_46 : decode cX3_suffer 46 = .ok (.putfield 21, 3) := by decide +kernel
theorem dX3_suffer_49 : decode cX3_suffer 49 = .ok (.return_, 1) := by decide +kernel
theorem dX4_init_0 : decode cX4_init 0 = .ok (.aload_n 0, 1) := by decide +kernel
theorem dX4_init_1 : decode cX4_init 1 = .ok (.invokespecial 3, 3) := by decide +kernel
theorem dX4_init_4 : decode cX4_init 4 = .ok (.aload_n 0, 1) := by decide +kernel
theorem dX4_init_5 : decode cX4_init 5 = .ok (.bipush 10, 2) := by decide +kernel
theorem dX4_init_7 : decode cX4_init 7 = .ok (.anewarray 9, 3) := by decide +kernel
theorem dX4_init_10 : decode cX4_init 10 = .ok (.putfield 11, 3) := by decide +kernel
theorem dX4_init_13 : decode cX4_init 13 = .ok (.aload_n 0, 1) := by decide +kernel
theorem dX4_init_14 : decode cX4_init 14 = .ok (.bipush 84, 2) := by decide +kernel
theorem dX4_init_16 : decode cX4_init 16 = .ok (.newarray .int, 2) := by decide +kernel
theorem dX4_init_18 : decode cX4_init 18 = .ok (.putfield 17, 3) := by decide +kernel
theorem dX4_init_21 : decode cX4_init 21 = .ok (.aload_n 0, 1) := by decide +kernel
theorem dX4_init_22 : decode cX4_init 22 = .ok (.bipush 6, 2) := by decide +kernel
theorem dX4_init_24 : decode cX4_init 24 = .ok (.newarray .int, 2) := by decide +kernel
theorem dX4_init_26 : decode cX4_init 26 = .ok (.putfield 21, 3) := by decide +kernel
theorem dX4_init_29 : decode cX4_init 29 = .ok (.aload_n 0, 1) := by decide +kernel
theorem dX4_init_30 : decode cX4_init 30 = .ok (.bipush 6, 2) := by decide +kernel
theorem dX4_init_32 : decode cX4_init 32 = .ok (.newarray .int, 2) := by decide +kernel
theorem dX4_init_34 : decode cX4_init 34 = .ok (.putfield 24, 3) := by decide +kernel
theorem dX4_init_37 : decode cX4_init 37 = .ok (.aload_n 0, 1) := by decide +kernel
theorem dX4_init_38 : decode cX4_init 38 = .ok (.iconst 5, 1) := by decide +kernel
theorem dX4_init_39 : decode cX4_init 39 = .ok (.newarray .int, 2) := by decide +kernel
theorem dX4_init_41 : decode cX4_init 41 = .ok (.dup, 1) := by decide +kernel
theorem dX4_init_42 : decode cX4_init 42 = .ok (.iconst 0, 1) := by decide +kernel
theorem dX4_init_43 : decode cX4_init 43 = .ok (.iconst (-1), 1) := by decide +kernel
theorem dX4_init_44 : decode cX4_init 44 = .ok (.iastore, 1) := by decide +kernel
theorem dX4_init_45 : decode cX4_init 45 = .ok (.dup, 1) := by decide +kernel
theorem dX4_init_46 : decode cX4_init 46 = .ok (.iconst 1, 1) := by decide +kernel
theorem dX4_init_47 : decode cX4_init 47 = .ok (.iconst (-1), 1) := by decide +kernel
theorem dX4_init_48 : decode cX4_init 48 = .ok (.iastore, 1) := by decide +kernel
theorem dX4_init_49 : decode cX4_init 49 = .ok (.dup, 1) := by decide +kernel
theorem dX4_init_50 : decode cX4_init 50 = .ok (.iconst 2, 1) := by decide +kernel
theorem dX4_init_51 : decode cX4_init 51 = .ok (.iconst (-1), 1) := by decide +kernel
theorem dX4_init_52 : decode cX4_init 52 = .ok (.iastore, 1) := by decide +kernel
theorem dX4_init_53 : decode cX4_init 53 = .ok (.dup, 1) := by decide +kernel
theorem dX4_init_54 : decode cX4_init 54 = .ok (.iconst 3, 1) := by decide +kernel
theorem dX4_init_55 : decode cX4_init 55 = .ok (.iconst (-1), 1) := by decide +kernel
theorem dX4_init_56 : decode cX4_init 56 = .ok (.iastore, 1) := by decide +kernel
theorem dX4_init_57 : decode cX4_init 57 = .ok (.dup, 1) := by decide +kernel
theorem dX4_init_58 : decode cX4_init 58 = .ok (.iconst 4, 1) := by decide +kernel
theorem dX4_init_59 : decode cX4_init 59 = .ok (.iconst (-1), 1) := by decide +kernel
theorem dX4_init_60 : decode cX4_init 60 = .ok (.iastore, 1) := by decide +kernel
theorem dX4_init_61 : decode cX4_init 61 = .ok (.putfield 27, 3) := by decide +kernel
theorem dX4_init_64 : decode cX4_init 64 = .ok (.aload_n 0, 1) := by decide +kernel
theorem dX4_init_65 : decode cX4_init 65 = .ok (.new 30, 3) := by decide +kernel
theorem dX4_init_68 : decode cX4_init 68 = .ok (.dup, 1) := by decide +kernel
theorem dX4_init_69 : decode cX4_init 69 = .ok (.invokespecial 32, 3) := by decide +kernel
theorem dX4_init_72 : decode cX4_init 72 = .ok (.putfield 33, 3) := by decide +kernel
theorem dX4_init_75 : decode cX4_init 75 = .ok (.aload_n 0, 1) := by decide +kernel
theorem dX4_init_76 : decode cX4_init 76 = .ok (.bipush 10, 2) := by decide +kernel
theorem dX4_init_78 : decode cX4_init 78 = .ok (.putfield 37, 3) := by decide +kernel
theorem dX4_init_81 : decode cX4_init 81 = .ok (.iconst 0, 1) := by decide +kernel
theorem dX4_init_82 : decode cX4_init 82 = .ok (.istore_n 1, 1) := by decide +kernel
theorem dX4_init_83 : decode cX4_init 83 = .ok (.iload_n 1, 1) := by decide +kernel
theorem dX4_init_84 : decode cX4_init 84 = .ok (.bipush 10, 2) := by decide +kernel
theorem dX4_init_86 : decode cX4_init 86 = .ok (.if_icmp .ge 22, 3) := by decide +kernel
theorem dX4_init_89 : decode cX4_init 89 = .ok (.aload_n 0, 1) := by decide +kernel
theorem dX4_init_90 : decode cX4_init 90 = .ok (.getfield 11, 3) := by decide +kernel
theorem dX4_init_93 : decode cX4_init 93 = .ok (.iload_n 1, 1) := by decide +kernel
theorem dX4_init_94 : decode cX4_init 94 = .ok (.new 9, 3) := by decide +kernel
theorem dX4_init_97 : decode cX4_init 97 = .ok (.dup, 1) := by decide +kernel
theorem dX4_init_98 : decode cX4_init 98 = .ok (.invokespecial 41, 3) := by decide +kernel
theorem dX4_init_101 : decode cX4_init 101 = .ok (.aastore, 1) := by decide +kernel
theorem dX4_init_102 : decode cX4_init 102 = .ok (.iinc 1 1, 3) := by decide +kernel
theorem dX4_init_105 : decode cX4_init 105 = .ok (.goto (-22), 3) := by decide +kernel
theorem dX4_init_108 : decode cX4_init 108 = .ok (.return_, 1) := by decide +kernel
theorem dX4_copyFrom_0 : decode cX4_copyFrom 0 = .ok (.aload_n 0, 1) := by decide +kernel
theorem dX4_copyFrom_1 : decode cX4_copyFrom 1 = .ok (.aload_n 1, 1) := by decide +kernel
theorem dX4_copyFrom_2 : decode cX4_copyFrom 2 = .ok (.invokevirtual 42, 3) := by decide +kernel
theorem dX4_copyFrom_5 : decode cX4_copyFrom 5 = .ok (.aload_n 1, 1) := by decide +kernel
theorem dX4_copyFrom_6 : decode cX4_copyFrom 6 = .ok (.getfield 17, 3) := by decide +kernel
theorem dX4_copyFrom_9 : decode cX4_copyFrom 9 = .ok (.iconst 0, 1) := by decide +kernel
theorem dX4_copyFrom_10 : decode cX4_copyFrom 10 = .ok (.aload_n 0, 1) := by decide +kernel
theorem dX4_copyFrom_11 : decode cX4_copyFrom 11 = .ok (.getfield 17, 3) := by decide +kernel
theorem dX4_copyFrom_14 : decode cX4_copyFrom 14 = .ok (.iconst 0, 1) := by decide +kernel
theorem dX4_copyFrom_15 : decode cX4_copyFrom 15 = .ok (.bipush 84, 2) := by decide +kernel
theorem dX4_copyFrom_17 : decode cX4_copyFrom 17 = .ok (.invokestatic 46, 3) := by decide +kernel
theorem dX4_copyFrom_20 : decode cX4_copyFrom 20 = .ok (.aload_n 1, 1) := by decide +kernel
theorem dX4_copyFrom_21 : decode cX4_copyFrom 21 = .ok (.getfield 21, 3) := by decide +kernel
theorem dX4_copyFrom_24 : decode cX4_copyFrom 24 = .ok (.iconst 0, 1) := by decide +kernel
theorem dX4_copyFrom_25 : decode cX4_copyFrom 25 = .ok (.aload_n 0, 1) := by decide +kernel
theorem dX4_copyFrom_26 : decode cX4_copyFrom 26 = .ok (.getfield 21, 3) := by decide +kernel
theorem dX4_copyFrom_29 : decode cX4_copyFrom 29 = .ok (.iconst 0, 1) := by decide +kernel
theorem dX4_copyFrom_30 : decode cX4_copyFrom 30 = .ok (.bipush 6, 2) := by decide +kernel
theorem dX4_copyFrom_32 : decode cX4_copyFrom 32 = .ok (.invokestatic 46, 3) := by decide +kernel
theorem dX4_copyFrom_35 : decode cX4_copyFrom 35 = .ok (.aload_n 1, 1) := by decide +kernel
theorem dX4_copyFrom_36 : decode cX4_copyFrom 36 = .ok (.getfield 24, 3) := by decide +kernel
theorem dX4_copyFrom_39 : decode cX4_copyFrom 39 = .ok (.iconst 0, 1) := by decide +kernel
theorem dX4_copyFrom_40 : decode cX4_copyFrom 40 = .ok (.aload_n 0, 1) := by decide +kernel
theorem dX4_copyFrom_41 : decode cX4_copyFrom 41 = .ok (.getfield 24, 3) := by decide +kernel
theorem dX4_copyFrom_44 : decode cX4_copyFrom 44 = .ok (.iconst 0, 1) := by decide +kernel
theorem dX4_copyFrom_45 : decode cX4_copyFrom 45 = .ok (.bipush 6, 2) := by decide +kernel
theorem dX4_copyFrom_47 : decode cX4_copyFrom 47 = .ok (.invokestatic 46, 3) := by decide +kernel
theorem dX4_copyFrom_50 : decode cX4_copyFrom 50 = .ok (.aload_n 1, 1) := by decide +kernel
theorem dX4_copyFrom_51 : decode cX4_copyFrom 51 = .ok (.getfield 27, 3) := by decide +kernel
theorem dX4_copyFrom_54 : decode cX4_copyFrom 54 = .ok (.iconst 0, 1) := by decide +kernel
theorem dX4_copyFrom_55 : decode cX4_copyFrom 55 = .ok (.aload_n 0, 1) := by decide +kernel
theorem dX4_copyFrom_56 : decode cX4_copyFrom 56 = .ok (.getfield 27, 3) := by decide +kernel
theorem dX4_copyFrom_59 : decode cX4_copyFrom 59 = .ok (.iconst 0, 1) := by decide +kernel
theorem dX4_copyFrom_60 : decode cX4_copyFrom 60 = .ok (.iconst 5, 1) := by decide +kernel
theorem dX4_copyFrom_61 : decode cX4_copyFrom 61 = .ok (.invokestatic 46, 3) := by decide +kernel
theorem dX4_copyFrom_64 : decode cX4_copyFrom 64 = .ok (.aload_n 0, 1) := by decide +kernel
theorem dX4_copyFrom_65 : decode cX4_copyFrom 65 = .ok (.getfield 33, 3) := by decide +kernel
theorem dX4_copyFrom_68 : decode cX4_copyFrom 68 = .ok (.aload_n 1, 1) := by decide +kernel
theorem dX4_copyFrom_69 : decode cX4_copyFrom 69 = .ok (.getfield 33, 3) := by decide +kernel
theorem dX4_copyFrom_72 : decode cX4_copyFrom 72 = .ok (.invokevirtual 52, 3) := by decide +kernel
theorem dX4_copyFrom_75 : decode cX4_copyFrom 75 = .ok (.aload_n 0, 1) := by decide +kernel
theorem dX4_copyFrom_76 : decode cX4_copyFrom 76 = .ok (.aload_n 1, 1) := by decide +kernel
theorem dX4_copyFrom_77 : decode cX4_copyFrom 77 = .ok (.getfield 56, 3) := by decide +kernel
theorem dX4_copyFrom_80 : decode cX4_copyFrom 80 = .ok (.putfield 56, 3) := by decide +kernel
theorem dX4_copyFrom_83 : decode cX4_copyFrom 83 = .ok (.aload_n 0, 1) := by decide +kernel
theorem dX4_copyFrom_84 : decode cX4_copyFrom 84 = .ok (.aload_n 1, 1) := by decide +kernel
theorem dX4_copyFrom_85 : decode cX4_copyFrom 85 = .ok (.getfield 59, 3) := by decide +kernel
theorem dX4_copyFrom_88 : decode cX4_copyFrom 88 = .ok (.putfield 59, 3) := by decide +kernel
theorem dX4_copyFrom_91 : decode cX4_copyFrom 91 = .ok (.aload_n 0, 1) := by decide +kernel
theorem dX4_copyFrom_92 : decode cX4_copyFrom 92 = .ok (.aload_n 1, 1) := by decide +kernel
theorem dX4_copyFrom_93 : decode cX4_copyFrom 93 = .ok (.getfield 62, 3) := by decide +kernel
theorem dX4_copyFrom_96 : decode cX4_copyFrom 96 = .ok (.putfield 62, 3) := by decide +kernel
theorem dX4_copyFrom_99 : decode cX4_copyFrom 99 = .ok (.aload_n 0, 1) := by decide +kernel
theorem dX4_copyFrom_100 : decode cX4_copyFrom 100 = .ok (.aload_n 1, 1) := by decide +kernel
theorem dX4_copyFrom_101 : decode cX4_copyFrom 101 = .ok (.getfield 37, 3) := by decide +kernel
theorem dX4_copyFrom_104 : decode cX4_copyFrom 104 = .ok (.putfield 37, 3) := by decide +kernel
theorem dX4_copyFrom_107 : decode cX4_copyFrom 107 = .ok (.return_, 1) := by decide +kernel
theorem dX4_copyParts_0 : decode cX4_copyParts 0 = .ok (.aload_n 0, 1) := by decide +kernel
theorem dX4_copyParts_1 : decode cX4_copyParts 1 = .ok (.aload_n 1, 1) := by decide +kernel
theorem dX4_copyParts_2 : decode cX4_copyParts 2 = .ok (.getfield 65, 3) := by decide +kernel
theorem dX4_copyParts_5 : decode cX4_copyParts 5 = .ok (.putfield 65, 3) := by decide +kernel
theorem dX4_copyParts_8 : decode cX4_copyParts 8 = .ok (.iconst 0, 1) := by decide +kernel
theorem dX4_copyParts_9 : decode cX4_copyParts 9 = .ok (.istore_n 2, 1) := by decide +kernel
theorem dX4_copyParts_10 : decode cX4_copyParts 10 = .ok (.iload_n 2, 1) := by decide +kernel
theorem dX4_copyParts_11 : decode cX4_copyParts 11 = .ok (.aload_n 0, 1) := by decide +kernel
theorem dX4_copyParts_12 : decode cX4_copyParts 12 = .ok (.getfield 65, 3) := by decide +kernel
theorem dX4_copyParts_15 : decode cX4_copyParts 15 = .ok (.if_icmp .ge 24, 3) := by decide +kernel
theorem dX4_copyParts_18 : decode cX4_copyParts 18 = .ok (.aload_n 0, 1) := by decide +kernel
theorem dX4_copyParts_19 : decode cX4_copyParts 19 = .ok (.getfield 11, 3) := by decide +kernel
theorem dX4_copyParts_22 : decode cX4_copyParts 22 = .ok (.iload_n 2, 1) := by decide +kernel
theorem dX4_copyParts_23 : decode cX4_copyParts 23 = .ok (.aaload, 1) := by decide +kernel
theorem dX4_copyParts_24 : decode cX4_copyParts 24 = .ok (.aload_n 1, 1) := by decide +kernel
theorem dX4_copyParts_25 : decode cX4_copyParts 25 = .ok (.getfield 11, 3) := by decide +kernel
theorem dX4_copyParts_28 : decode cX4_copyParts 28 = .ok (.iload_n 2, 1) := by decide +kernel
theorem dX4_copyParts_29 : decode cX4_copyParts 29 = .ok (.aaload, 1) := by decide +kernel
theorem dX4_copyParts_30 : decode cX4_copyParts 30 = .ok (.invokevirtual 68, 3) := by decide +kernel
theorem dX4_copyParts_33 : decode cX4_copyParts 33 = .ok (.iinc 2 1, 3) := by decide +kernel
theorem dX4_copyParts_36 : decode cX4_copyParts 36 = .ok (.goto (-26), 3) := by decide +kernel
theorem dX4_copyParts_39 : decode cX4_copyParts 39 = .ok (.return_, 1) := by decide +kernel
theorem dX4_hasPart_0 : decode cX4_hasPart 0 = .ok (.iload_n 1, 1) := by decide +kernel
theorem dX4_hasPart_1 : decode cX4_hasPart 1 = .ok (.iconst 0, 1) := by decide +kernel
theorem dX4_hasPart_2 : decode cX4_hasPart 2 = .ok (.aload_n 0, 1) := by decide +kernel
theorem dX4_hasPart_3 : decode cX4_hasPart 3 = .ok (.getfield 65, 3) := by decide +kernel
theorem dX4_hasPart_6 : decode cX4_hasPart 6 = .ok (.iconst 1, 1) := by decide +kernel
theorem dX4_hasPart_7 : decode cX4_hasPart 7 = .ok (.isub, 1) := by decide +kernel
theorem dX4_hasPart_8 : decode cX4_hasPart 8 = .ok (.invokestatic 71, 3) := by decide +kernel
theorem dX4_hasPart_11 : decode cX4_hasPart 11 = .ok (.ireturn, 1) := by decide +kernel
theorem dX4_isLaw_0 : decode cX4_isLaw 0 = .ok (.iload_n 1, 1) := by decide +kernel
theorem dX4_isLaw_1 : decode cX4_isLaw 1 = .ok (.ifCond .lt 29, 3) := by decide +kernel
theorem dX4_isLaw_4 : decode cX4_isLaw 4 = .ok (.iload_n 1, 1) := by decide +kernel
theorem dX4_isLaw_5 : decode cX4_isLaw 5 = .ok (.bipush 100, 2) := by decide +kernel
theorem dX4_isLaw_7 : decode cX4_isLaw 7 = .ok (.idiv, 1) := by decide +kernel
theorem dX4_isLaw_8 : decode cX4_isLaw 8 = .ok (.aload_n 0, 1) := by decide +kernel
theorem dX4_isLaw_9 : decode cX4_isLaw 9 = .ok (.getfield 56, 3) := by decide +kernel
theorem dX4_isLaw_12 : decode cX4_isLaw 12 = .ok (.if_icmp .ge 18, 3) := by decide +kernel
theorem dX4_isLaw_15 : decode cX4_isLaw 15 = .ok (.iload_n 1, 1) := by decide +kernel
theorem dX4_isLaw_16 : decode cX4_isLaw 16 = .ok (.bipush 10, 2) := by decide +kernel
theorem dX4_isLaw_18 : decode cX4_isLaw 18 = .ok (.idiv, 1) := by decide +kernel
theorem dX4_isLaw_19 : decode cX4_isLaw 19 = .ok (.bipush 10, 2) := by decide +kernel
theorem dX4_isLaw_21 : decode cX4_isLaw 21 = .ok (.irem, 1) := by decide +kernel
theorem dX4_isLaw_22 : decode cX4_isLaw 22 = .ok (.iconst 5, 1) := by decide +kernel
theorem dX4_isLaw_23 : decode cX4_isLaw 23 = .ok (.if_icmp .gt 7, 3) := by decide +kernel
theorem dX4_isLaw_26 : decode cX4_isLaw 26 = .ok (.iconst 1, 1) := by decide +kernel
theorem dX4_isLaw_27 : decode cX4_isLaw 27 = .ok (.goto 4, 3) := by decide +kernel
theorem dX4_isLaw_30 : decode cX4_isLaw 30 = .ok (.iconst 0, 1) := by decide +kernel
theorem dX4_isLaw_31 : decode cX4_isLaw 31 = .ok (.ireturn, 1) := by decide +kernel
theorem dX4_isGate_0 : decode cX4_isGate 0 = .ok (.iload_n 2, 1) := by decide +kernel
theorem dX4_isGate_1 : decode cX4_isGate 1 = .ok (.ifCond .lt 11, 3) := by decide +kernel
theorem dX4_isGate_4 : decode cX4_isGate 4 = .ok (.iload_n 2, 1) := by decide +kernel
theorem dX4_isGate_5 : decode cX4_isGate 5 = .ok (.bipush 10, 2) := by decide +kernel
theorem dX4_isGate_7 : decode cX4_isGate 7 = .ok (.irem, 1) := by decide +kernel
theorem dX4_isGate_8 : decode cX4_isGate 8 = .ok (.iconst 5, 1) := by decide +kernel
theorem dX4_isGate_9 : decode cX4_isGate 9 = .ok (.if_icmp .lt 5, 3) := by decide +kernel
theorem dX4_isGate_12 : decode cX4_isGate 12 = .ok (.iconst 0, 1) := by decide +kernel
theorem dX4_isGate_13 : decode cX4_isGate 13 = .ok (.ireturn, 1) := by decide +kernel
theorem dX4_isGate_14 : decode cX4_isGate 14 = .ok (.iload_n 2, 1) := by decide +kernel
theorem dX4_isGate_15 : decode cX4_isGate 15 = .ok (.bipush 10, 2) := by decide +kernel
theorem dX4_isGate_17 : decode cX4_isGate 17 = .ok (.idiv, 1) := by decide +kernel
theorem dX4_isGate_18 : decode cX4_isGate 18 = .ok (.istore_n 3, 1) := by decide +kernel
theorem dX4_isGate_19 : decode cX4_isGate 19 = .ok (.iload_n 1, 1) := by decide +kernel
theorem dX4_isGate_20 : decode cX4_isGate 20 = .ok (.iconst 2, 1) := by decide +kernel
theorem dX4_isGate_21 : decode cX4_isGate 21 = .ok (.if_icmp .ne 13, 3) := by decide +kernel
theorem dX4_isGate_24 : decode cX4_isGate 24 = .ok (.iload_n 3, 1) := by decide +kernel
theorem dX4_isGate_25 : decode cX4_isGate 25 = .ok (.ifCond .ne 7, 3) := by decide +kernel
theorem dX4_isGate_28 : decode cX4_isGate 28 = .ok (.iconst 1, 1) := by decide +kernel
theorem dX4_isGate_29 : decode cX4_isGate 29 = .ok (.goto 4, 3) := by decide +kernel
theorem dX4_isGate_32 : decode cX4_isGate 32 = .ok (.iconst 0, 1) := by decide +kernel
theorem dX4_isGate_33 : decode cX4_isGate 33 = .ok (.ireturn, 1) := by decide +kernel
theorem dX4_isGate_34 : decode cX4_isGate 34 = .ok (.aload_n 0, 1) := by decide +kernel
theorem dX4_isGate_35 : decode cX4_isGate 35 = .ok (.iload_n 3, 1) := by decide +kernel
theorem dX4_isGate_36 : decode cX4_isGate 36 = .ok (.invokevirtual 75, 3) := by decide +kernel
theorem dX4_isGate_39 : decode cX4_isGate 39 = .ok (.ifCond .eq 22, 3) := by decide +kernel
theorem dX4_isGate_42 : decode cX4_isGate 42 = .ok (.aload_n 0, 1) := by decide +kernel
theorem dX4_isGate_43 : decode cX4_isGate 43 = .ok (.getfield 11, 3) := by decide +kernel
theorem dX4_isGate_46 : decode cX4_isGate 46 = .ok (.iload_n 3, 1) := by decide +kernel
theorem dX4_isGate_47 : decode cX4_isGate 47 = .ok (.aaload, 1) := by decide +kernel
theorem dX4_isGate_48 : decode cX4_isGate 48 = .ok (.getfield 79, 3) := by decide +kernel
theorem dX4_isGate_51 : decode cX4_isGate 51 = .ok (.invokestatic 82, 3) := by decide +kernel
theorem dX4_isGate_54 : decode cX4_isGate 54 = .ok (.ifCond .eq 7, 3) := by decide +kernel
theorem dX4_isGate_57 : decode cX4_isGate 57 = .ok (.iconst 1, 1) := by decide +kernel
theorem dX4_isGate_58 : decode cX4_isGate 58 = .ok (.goto 4, 3) := by decide +kernel
theorem dX4_isGate_61 : decode cX4_isGate 61 = .ok (.iconst 0, 1) := by decide +kernel
theorem dX4_isGate_62 : decode cX4_isGate 62 = .ok (.ireturn, 1) := by decide +kernel
theorem dX4_dropChangesOf_0 : decode cX4_dropChangesOf 0 = .ok (.iconst 0, 1) := by decide +kernel
theorem dX4_dropChangesOf_1 : decode cX4_dropChangesOf 1 = .ok (.istore_n 2, 1) := by decide +kernel
theorem dX4_dropChangesOf_2 : decode cX4_dropChangesOf 2 = .ok (.iconst 0, 1) := by decide +kernel
theorem dX4_dropChangesOf_3 : decode cX4_dropChangesOf 3 = .ok (.istore_n 3, 1) := by decide +kernel
theorem dX4_dropChangesOf_4 : decode cX4_dropChangesOf 4 = .ok (.iload_n 3, 1) := by decide +kernel
theorem dX4_dropChangesOf_5 : decode cX4_dropChangesOf 5 = .ok (.aload_n 0, 1) := by decide +kernel
theorem dX4_dropChangesOf_6 : decode cX4_dropChangesOf 6 = .ok (.getfield 59, 3) := by decide +kernel
theorem dX4_dropChangesOf_9 : decode cX4_dropChangesOf 9 = .ok (.if_icmp .ge 46, 3) := by decide +kernel
theorem dX4_dropChangesOf_12 : decode cX4_dropChangesOf 12 = .ok (.aload_n 0, 1) := by decide +kernel
theorem dX4_dropChangesOf_13 : decode cX4_dropChangesOf 13 = .ok (.getfield 21, 3) := by decide +kernel
theorem dX4_dropChangesOf_16 : decode cX4_dropChangesOf 16 = .ok (.iload_n 3, 1) := by decide +kernel
theorem dX4_dropChangesOf_17 : decode cX4_dropChangesOf 17 = .ok (.iaload, 1) := by decide +kernel
theorem dX4_dropChangesOf_18 : decode cX4_dropChangesOf 18 = .ok (.iload_n 1, 1) := by decide +kernel
theorem dX4_dropChangesOf_19 : decode cX4_dropChangesOf 19 = .ok (.if_icmp .eq 30, 3) := by decide +kernel
theorem dX4_dropChangesOf_22 : decode cX4_dropChangesOf 22 = .ok (.aload_n 0, 1) := by decide +kernel
theorem dX4_dropChangesOf_23 : decode cX4_dropChangesOf 23 = .ok (.getfield 21, 3) := by decide +kernel
theorem dX4_dropChangesOf_26 : decode cX4_dropChangesOf 26 = .ok (.iload_n 2, 1) := by decide +kernel
theorem dX4_dropChangesOf_27 : decode cX4_dropChangesOf 27 = .ok (.aload_n 0, 1) := by decide +kernel
theorem dX4_dropChangesOf_28 : decode cX4_dropChangesOf 28 = .ok (.getfield 21, 3) := by decide +kernel
theorem dX4_dropChangesOf_31 : decode cX4_dropChangesOf 31 = .ok (.iload_n 3, 1) := by decide +kernel
theorem dX4_dropChangesOf_32 : decode cX4_dropChangesOf 32 = .ok (.iaload, 1) := by decide +kernel
theorem dX4_dropChangesOf_33 : decode cX4_dropChangesOf 33 = .ok (.iastore, 1) := by decide +kernel
theorem dX4_dropChangesOf_34 : decode cX4_dropChangesOf 34 = .ok (.aload_n 0, 1) := by decide +kernel
theorem dX4_dropChangesOf_35 : decode cX4_dropChangesOf 35 = .ok (.getfield 24, 3) := by decide +kernel
theorem dX4_dropChangesOf_38 : decode cX4_dropChangesOf 38 = .ok (.iload_n 2, 1) := by decide +kernel
theorem dX4_dropChangesOf_39 : decode cX4_dropChangesOf 39 = .ok (.aload_n 0, 1) := by decide +kernel
theorem dX4_dropChangesOf_40 : decode cX4_dropChangesOf 40 = .ok (.getfield 24, 3) := by decide +kernel
theorem dX4_dropChangesOf_43 : decode cX4_dropChangesOf 43 = .ok (.iload_n 3, 1) := by decide +kernel
theorem dX4_dropChangesOf_44 : decode cX4_dropChangesOf 44 = .ok (.iaload, 1) := by decide +kernel
theorem dX4_dropChangesOf_45 : decode cX4_dropChangesOf 45 = .ok (.iastore, 1) := by decide +kernel
theorem dX4_dropChangesOf_46 : decode cX4_dropChangesOf 46 = .ok (.iinc 2 1, 3) := by decide +kernel
theorem dX4_dropChangesOf_49 : decode cX4_dropChangesOf 49 = .ok (.iinc 3 1, 3) := by decide +kernel
theorem dX4_dropChangesOf_52 : decode cX4_dropChangesOf 52 = .ok (.goto (-48), 3) := by decide +kernel
theorem dX4_dropChangesOf_55 : decode cX4_dropChangesOf 55 = .ok (.aload_n 0, 1) := by decide +kernel
theorem dX4_dropChangesOf_56 : decode cX4_dropChangesOf 56 = .ok (.iload_n 2, 1) := by decide +kernel
theorem dX4_dropChangesOf_57 : decode cX4_dropChangesOf 57 = .ok (.putfield 59, 3) := by decide +kernel
theorem dX4_dropChangesOf_60 : decode cX4_dropChangesOf 60 = .ok (.return_, 1) := by decide +kernel
theorem dX4_openCount_0 : decode cX4_openCount 0 = .ok (.iconst 0, 1) := by decide +kernel
theorem dX4_openCount_1 : decode cX4_openCount 1 = .ok (.istore_n 1, 1) := by decide +kernel
theorem dX4_openCount_2 : decode cX4_openCount 2 = .ok (.iconst 0, 1) := by decide +kernel
theorem dX4_openCount_3 : decode cX4_openCount 3 = .ok (.istore_n 2, 1) := by decide +kernel
theorem dX4_openCount_4 : decode cX4_openCount 4 = .ok (.iload_n 2, 1) := by decide +kernel
theorem dX4_openCount_5 : decode cX4_openCount 5 = .ok (.aload_n 0, 1) := by decide +kernel
theorem dX4_openCount_6 : decode cX4_openCount 6 = .ok (.getfield 65, 3) := by decide +kernel
theorem dX4_openCount_9 : decode cX4_openCount 9 = .ok (.if_icmp .ge 24, 3) := by decide +kernel
theorem dX4_openCount_12 : decode cX4_openCount 12 = .ok (.aload_n 0, 1) := by decide +kernel
theorem dX4_openCount_13 : decode cX4_openCount 13 = .ok (.getfield 11, 3) := by decide +kernel
theorem dX4_openCount_16 : decode cX4_openCount 16 = .ok (.iload_n 2, 1) := by decide +kernel
theorem dX4_openCount_17 : decode cX4_openCount 17 = .ok (.aaload, 1) := by decide +kernel
theorem dX4_openCount_18 : decode cX4_openCount 18 = .ok (.invokevirtual 85, 3) := by decide +kernel
theorem dX4_openCount_21 : decode cX4_openCount 21 = .ok (.ifCond .eq 6, 3) := by decide +kernel
theorem dX4_openCount_24 : decode cX4_openCount 24 = .ok (.iinc 1 1, 3) := by decide +kernel
theorem dX4_openCount_27 : decode cX4_openCount 27 = .ok (.iinc 2 1, 3) := by decide +kernel
theorem dX4_openCount_30 : decode cX4_openCount 30 = .ok (.goto (-26), 3) := by decide +kernel
theorem dX4_openCount_33 : decode cX4_openCount 33 = .ok (.iload_n 1, 1) := by decide +kernel
theorem dX4_openCount_34 : decode cX4_openCount 34 = .ok (.ireturn, 1) := by decide +kernel
theorem dX4_brokenCount_0 : decode cX4_brokenCount 0 = .ok (.iconst 0, 1) := by decide +kernel
theorem dX4_brokenCount_1 : decode cX4_brokenCount 1 = .ok (.istore_n 1, 1) := by decide +kernel
theorem dX4_brokenCount_2 : decode cX4_brokenCount 2 = .ok (.iconst 0, 1) := by decide +kernel
theorem dX4_brokenCount_3 : decode cX4_brokenCount 3 = .ok (.istore_n 2, 1) := by decide +kernel
theorem dX4_brokenCount_4 : decode cX4_brokenCount 4 = .ok (.iload_n 2, 1) := by decide +kernel
theorem dX4_brokenCount_5 : decode cX4_brokenCount 5 = .ok (.aload_n 0, 1) := by decide +kernel
theorem dX4_brokenCount_6 : decode cX4_brokenCount 6 = .ok (.getfield 65, 3) := by decide +kernel
theorem dX4_brokenCount_9 : decode cX4_brokenCount 9 = .ok (.if_icmp .ge 24, 3) := by decide +kernel
theorem dX4_brokenCount_12 : decode cX4_brokenCount 12 = .ok (.aload_n 0, 1) := by decide +kernel
theorem dX4_brokenCount_13 : decode cX4_brokenCount 13 = .ok (.getfield 11, 3) := by decide +kernel
theorem dX4_brokenCount_16 : decode cX4_brokenCount 16 = .ok (.iload_n 2, 1) := by decide +kernel
theorem dX4_brokenCount_17 : decode cX4_brokenCount 17 = .ok (.aaload, 1) := by decide +kernel
theorem dX4_brokenCount_18 : decode cX4_brokenCount 18 = .ok (.getfield 89, 3) := by decide +kernel
theorem dX4_brokenCount_21 : decode cX4_brokenCount 21 = .ok (.ifCond .eq 6, 3) := by decide +kernel
theorem dX4_brokenCount_24 : decode cX4_brokenCount 24 = .ok (.iinc 1 1, 3) := by decide +kernel
theorem dX4_brokenCount_27 : decode cX4_brokenCount 27 = .ok (.iinc 2 1, 3) := by decide +kernel
theorem dX4_brokenCount_30 : decode cX4_brokenCount 30 = .ok (.goto (-26), 3) := by decide +kernel
theorem dX4_brokenCount_33 : decode cX4_brokenCount 33 = .ok (.iload_n 1, 1) := by decide +kernel
theorem dX4_brokenCount_34 : decode cX4_brokenCount 34 = .ok (.ireturn, 1) := by decide +kernel
theorem dX5_init_0 : decode cX5_init 0 = .ok (.aload_n 0, 1) := by decide +kernel
theorem dX5_init_1 : decode cX5_init 1 = .ok (.invokespecial 3, 3) := by decide +kernel
theorem dX5_init_4 : decode cX5_init 4 = .ok (.aload_n 0, 1) := by decide +kernel
theorem dX5_init_5 : decode cX5_init 5 = .ok (.sipush 220, 3) := by decide +kernel
theorem dX5_init_8 : decode cX5_init 8 = .ok (.newarray .int, 2) := by decide +kernel
theorem dX5_init_10 : decode cX5_init 10 = .ok (.putfield 9, 3) := by decide +kernel
theorem dX5_init_13 : decode cX5_init 13 = .ok (.aload_n 0, 1) := by decide +kernel
theorem dX5_init_14 : decode cX5_init 14 = .ok (.new 15, 3) := by decide +kernel
theorem dX5_init_17 : decode cX5_init 17 = .ok (.dup, 1) := by decide +kernel
theorem dX5_init_18 : decode cX5_init 18 = .ok (.invokespecial 17, 3) := by decide +kernel
theorem dX5_init_21 : decode cX5_init 21 = .ok (.putfield 18, 3) := by decide +kernel
theorem dX5_init_24 : decode cX5_init 24 = .ok (.aload_n 0, 1) := by decide +kernel
theorem dX5_init_25 : decode cX5_init 25 = .ok (.sipush 221, 3) := by decide +kernel
theorem dX5_init_28 : decode cX5_init 28 = .ok (.newarray .int, 2) := by decide +kernel
theorem dX5_init_30 : decode cX5_init 30 = .ok (.putfield 22, 3) := by decide +kernel
theorem dX5_init_33 : decode cX5_init 33 = .ok (.aload_n 0, 1) := by decide +kernel
theorem dX5_init_34 : decode cX5_init 34 = .ok (.sipush 221, 3) := by decide +kernel
theorem dX5_init_37 : decode cX5_init 37 = .ok (.newarray .int, 2) := by decide +kernel
theorem dX5_init_39 : decode cX5_init 39 = .ok (.putfield 25, 3) := by decide +kernel
theorem dX5_init_42 : decode cX5_init 42 = .ok (.aload_n 0, 1) := by decide +kernel
theorem dX5_init_43 : decode cX5_init 43 = .ok (.sipush 221, 3) := by decide +kernel
theorem dX5_init_46 : decode cX5_init 46 = .ok (.newarray .int, 2) := by decide +kernel
theorem dX5_init_48 : decode cX5_init 48 = .ok (.putfield 28, 3) := by decide +kernel
theorem dX5_init_51 : decode cX5_init 51 = .ok (.return_, 1) := by decide +kernel
theorem dX5_take_0 : decode cX5_take 0 = .ok (.iconst 0, 1) := by decide +kernel
theorem dX5_take_1 : decode cX5_take 1 = .ok (.istore 4, 2) := by decide +kernel
theorem dX5_take_3 : decode cX5_take 3 = .ok (.iload 4, 2) := by decide +kernel
theorem dX5_take_5 : decode cX5_take 5 = .ok (.iload_n 3, 1) := by decide +kernel
theorem dX5_take_6 : decode cX5_take 6 = .ok (.if_icmp .ge 50, 3) := by decide +kernel
theorem dX5_take_9 : decode cX5_take 9 = .ok (.aload_n 0, 1) := by decide +kernel
theorem dX5_take_10 : decode cX5_take 10 = .ok (.getfield 31, 3) := by decide +kernel
theorem dX5_take_13 : decode cX5_take 13 = .ok (.sipush 220, 3) := by decide +kernel
theorem dX5_take_16 : decode cX5_take 16 = .ok (.if_icmp .ge 40, 3) := by decide +kernel
theorem dX5_take_19 : decode cX5_take 19 = .ok (.aload_n 0, 1) := by decide +kernel
theorem dX5_take_20 : decode cX5_take 20 = .ok (.getfield 9, 3) := by decide +kernel
theorem dX5_take_23 : decode cX5_take 23 = .ok (.aload_n 0, 1) := by decide +kernel
theorem dX5_take_24 : decode cX5_take 24 = .ok (.getfield 31, 3) := by decide +kernel
theorem dX5_take_27 : decode cX5_take 27 = .ok (.lload_n 1, 1) := by decide +kernel
theorem dX5_take_28 : decode cX5_take 28 = .ok (.bipush 8, 2) := by decide +kernel
theorem dX5_take_30 : decode cX5_take 30 = .ok (.iload 4, 2) := by decide +kernel
theorem dX5_take_32 : decode cX5_take 32 = .ok (.imul, 1) := by decide +kernel
theorem dX5_take_33 : decode cX5_take 33 = .ok (.lushr, 1) := by decide +kernel
theorem dX5_take_34 : decode cX5_take 34 = .ok (.ldc2_w 35, 3) := by decide +kernel
theorem dX5_take_37 : decode cX5_take 37 = .ok (.land, 1) := by decide +kernel
theorem dX5_take_38 : decode cX5_take 38 = .ok (.l2i, 1) := by decide +kernel
theorem dX5_take_39 : decode cX5_take 39 = .ok (.iastore, 1) := by decide +kernel
theorem dX5_take_40 : decode cX5_take 40 = .ok (.aload_n 0, 1) := by decide +kernel
theorem dX5_take_41 : decode cX5_take 41 = .ok (.dup, 1) := by decide +kernel
theorem dX5_take_42 : decode cX5_take 42 = .ok (.getfield 31, 3) := by decide +kernel
theorem dX5_take_45 : decode cX5_take 45 = .ok (.iconst 1, 1) := by decide +kernel
theorem dX5_take_46 : decode cX5_take 46 = .ok (.iadd, 1) := by decide +kernel
theorem dX5_take_47 : decode cX5_take 47 = .ok (.putfield 31, 3) := by decide +kernel
theorem dX5_take_50 : decode cX5_take 50 = .ok (.iinc 4 1, 3) := by decide +kernel
theorem dX5_take_53 : decode cX5_take 53 = .ok (.goto (-50), 3) := by decide +kernel
theorem dX5_take_56 : decode cX5_take 56 = .ok (.return_, 1) := by decide +kernel
theorem dX5_parse_0 : decode cX5_parse 0 = .ok (.aload_n 0, 1) := by decide +kernel
theorem dX5_parse_1 : decode cX5_parse 1 = .ok (.invokevirtual 37, 3) := by decide +kernel
theorem dX5_parse_4 : decode cX5_parse 4 = .ok (.aload_n 0, 1) := by decide +kernel
theorem dX5_parse_5 : decode cX5_parse 5 = .ok (.getfield 18, 3) := by decide +kernel
theorem dX5_parse_8 : decode cX5_parse 8 = .ok (.invokevirtual 40, 3) := by decide +kernel
theorem dX5_parse_11 : decode cX5_parse 11 = .ok (.aload_n 0, 1) := by decide +kernel
theorem dX5_parse_12 : decode cX5_parse 12 = .ok (.iconst 0, 1) := by decide +kernel
theorem dX5_parse_13 : decode cX5_parse 13 = .ok (.putfield 43, 3) := by decide +kernel
theorem dX5_parse_16 : decode cX5_parse 16 = .ok (.aload_n 0, 1) := by decide +kernel
theorem dX5_parse_17 : decode cX5_parse 17 = .ok (.aload_n 0, 1) := by decide +kernel
theorem dX5_parse_18 : decode cX5_parse 18 = .ok (.getfield 22, 3) := by decide +kernel
theorem dX5_parse_21 : decode cX5_parse 21 = .ok (.iconst 0, 1) := by decide +kernel
theorem dX5_parse_22 : decode cX5_parse 22 = .ok (.iaload, 1) := by decide +kernel
theorem dX5_parse_23 : decode cX5_parse 23 = .ok (.putfield 46, 3) := by decide +kernel
theorem dX5_parse_26 : decode cX5_parse 26 = .ok (.iconst 0, 1) := by decide +kernel
theorem dX5_parse_27 : decode cX5_parse 27 = .ok (.istore_n 1, 1) := by decide +kernel
theorem dX5_parse_28 : decode cX5_parse 28 = .ok (.iload_n 1, 1) := by decide +kernel
theorem dX5_parse_29 : decode cX5_parse 29 = .ok (.bipush 8, 2) := by decide +kernel
theorem dX5_parse_31 : decode cX5_parse 31 = .ok (.if_icmp .gt 83, 3) := by decide +kernel
theorem dX5_parse_34 : decode cX5_parse 34 = .ok (.aload_n 0, 1) := by decide +kernel
theorem dX5_parse_35 : decode cX5_parse 35 = .ok (.getfield 46, 3) := by decide +kernel
theorem dX5_parse_38 : decode cX5_parse 38 = .ok (.ifCond .eq 76, 3) := by decide +kernel
theorem dX5_parse_41 : decode cX5_parse 41 = .ok (.iload_n 1, 1) := by decide +kernel
theorem dX5_parse_42 : decode cX5_parse 42 = .ok (.bipush 8, 2) := by decide +kernel
theorem dX5_parse_44 : decode cX5_parse 44 = .ok (.if_icmp .eq 12, 3) := by decide +kernel
theorem dX5_parse_47 : decode cX5_parse 47 = .ok (.aload_n 0, 1) := by decide +kernel
theorem dX5_parse_48 : decode cX5_parse 48 = .ok (.getfield 46, 3) := by decide +kernel
theorem dX5_parse_51 : decode cX5_parse 51 = .ok (.bipush 10, 2) := by decide +kernel
theorem dX5_parse_53 : decode cX5_parse 53 = .ok (.if_icmp .eq 13, 3) := by decide +kernel
theorem dX5_parse_56 : decode cX5_parse 56 = .ok (.aload_n 0, 1) := by decide +kernel
theorem dX5_parse_57 : decode cX5_parse 57 = .ok (.getfield 25, 3) := by decide +kernel
theorem dX5_parse_60 : decode cX5_parse 60 = .ok (.aload_n 0, 1) := by decide +kernel
theorem dX5_parse_61 : decode cX5_parse 61 = .ok (.getfield 43, 3) := by decide +kernel
theorem dX5_parse_64 : decode cX5_parse 64 = .ok (.iaload, 1) := by decide +kernel
theorem dX5_parse_65 : decode cX5_parse 65 = .ok (.ireturn, 1) := by decide +kernel
theorem dX5_parse_66 : decode cX5_parse 66 = .ok (.aload_n 0, 1) := by decide +kernel
theorem dX5_parse_67 : decode cX5_parse 67 = .ok (.invokevirtual 49, 3) := by decide +kernel
theorem dX5_parse_70 : decode cX5_parse 70 = .ok (.aload_n 0, 1) := by decide +kernel
theorem dX5_parse_71 : decode cX5_parse 71 = .ok (.iconst 0, 1) := by decide +kernel
theorem dX5_parse_72 : decode cX5_parse 72 = .ok (.invokevirtual 52, 3) := by decide +kernel
theorem dX5_parse_75 : decode cX5_parse 75 = .ok (.ifCond .eq 12, 3) := by decide +kernel
theorem dX5_parse_78 : decode cX5_parse 78 = .ok (.aload_n 0, 1) := by decide +kernel
theorem dX5_parse_79 : decode cX5_parse 79 = .ok (.getfield 46, 3) := by decide +kernel
theorem dX5_parse_82 : decode cX5_parse 82 = .ok (.bipush 9, 2) := by decide +kernel
theorem dX5_parse_84 : decode cX5_parse 84 = .ok (.if_icmp .eq 13, 3) := by decide +kernel
theorem dX5_parse_87 : decode cX5_parse 87 = .ok (.aload_n 0, 1) := by decide +kernel
theorem dX5_parse_88 : decode cX5_parse 88 = .ok (.getfield 25, 3) := by decide +kernel
theorem dX5_parse_91 : decode cX5_parse 91 = .ok (.aload_n 0, 1) := by decide +kernel
theorem dX5_parse_92 : decode cX5_parse 92 = .ok (.getfield 43, 3) := by decide +kernel
theorem dX5_parse_95 : decode cX5_parse 95 = .ok (.iaload, 1) := by decide +kernel
theorem dX5_parse_96 : decode cX5_parse 96 = .ok (.ireturn, 1) := by decide +kernel
theorem dX5_parse_97 : decode cX5_parse 97 = .ok (.aload_n 0, 1) := by decide +kernel
theorem dX5_parse_98 : decode cX5_parse 98 = .ok (.getfield 18, 3) := by decide +kernel
theorem dX5_parse_101 : decode cX5_parse 101 = .ok (.invokevirtual 56, 3) := by decide +kernel
theorem dX5_parse_104 : decode cX5_parse 104 = .ok (.aload_n 0, 1) := by decide +kernel
theorem dX5_parse_105 : decode cX5_parse 105 = .ok (.invokevirtual 49, 3) := by decide +kernel
theorem dX5_parse_108 : decode cX5_parse 108 = .ok (.iinc 1 1, 3) := by decide +kernel
theorem dX5_parse_111 : decode cX5_parse 111 = .ok (.goto (-83), 3) := by decide +kernel
theorem dX5_parse_114 : decode cX5_parse 114 = .ok (.iconst (-1), 1) := by decide +kernel
theorem dX5_parse_115 : decode cX5_parse 115 = .ok (.ireturn, 1) := by decide +kernel
theorem dX5_step_0 : decode cX5_step 0 = .ok (.aload_n 0, 1) := by decide +kernel
theorem dX5_step_1 : decode cX5_step 1 = .ok (.getfield 46, 3) := by decide +kernel
theorem dX5_step_4 : decode cX5_step 4 = .ok (.ifCond .eq 23, 3) := by decide +kernel
theorem dX5_step_7 : decode cX5_step 7 = .ok (.aload_n 0, 1) := by decide +kernel
theorem dX5_step_8 : decode cX5_step 8 = .ok (.getfield 43, 3) := by decide +kernel
theorem dX5_step_11 : decode cX5_step 11 = .ok (.sipush 220, 3) := by decide +kernel
theorem dX5_step_14 : decode cX5_step 14 = .ok (.if_icmp .ge 13, 3) := by decide +kernel
theorem dX5_step_17 : decode cX5_step 17 = .ok (.aload_n 0, 1) := by decide +kernel
theorem dX5_step_18 : decode cX5_step 18 = .ok (.dup, 1) := by decide +kernel
theorem dX5_step_19 : decode cX5_step 19 = .ok (.getfield 43, 3) := by decide +kernel
theorem dX5_step_22 : decode cX5_step 22 = .ok (.iconst 1, 1) := by decide +kernel
theorem dX5_step_23 : decode cX5_step 23 = .ok (.iadd, 1) := by decide +kernel
theorem dX5_step_24 : decode cX5_step 24 = .ok (.putfield 43, 3) := by decide +kernel
theorem dX5_step_27 : decode cX5_step 27 = .ok (.aload_n 0, 1) := by decide +kernel
theorem dX5_step_28 : decode cX5_step 28 = .ok (.aload_n 0, 1) := by decide +kernel
theorem dX5_step_29 : decode cX5_step 29 = .ok (.getfield 22, 3) := by decide +kernel
theorem dX5_step_32 : decode cX5_step 32 = .ok (.aload_n 0, 1) := by decide +kernel
theorem dX5_step_33 : decode cX5_step 33 = .ok (.getfield 43, 3) := by decide +kernel
theorem dX5_step_36 : decode cX5_step 36 = .ok (.iaload, 1) := by decide +kernel
theorem dX5_step_37 : decode cX5_step 37 = .ok (.putfield 46, 3) := by decide +kernel
theorem dX5_step_40 : decode cX5_step 40 = .ok (.return_, 1) := by decide +kernel
theorem dX5_cond_0 : decode cX5_cond 0 = .ok (.iconst 0, 1) := by decide +kernel
theorem dX5_cond_1 : decode cX5_cond 1 = .ok (.istore_n 2, 1) := by decide +kernel
theorem dX5_cond_2 : decode cX5_cond 2 = .ok (.iconst 0, 1) := by decide +kernel
theorem dX5_cond_3 : decode cX5_cond 3 = .ok (.istore_n 3, 1) := by decide +kernel
theorem dX5_cond_4 : decode cX5_cond 4 = .ok (.iconst 0, 1) := by decide +kernel
theorem dX5_cond_5 : decode cX5_cond 5 = .ok (.istore 4, 2) := by decide +kernel
theorem dX5_cond_7 : decode cX5_cond 7 = .ok (.iload 4, 2) := by decide +kernel
theorem dX5_cond_9 : decode cX5_cond 9 = .ok (.sipush 220, 3) := by decide +kernel
theorem dX5_cond_12 : decode cX5_cond 12 = .ok (.if_icmp .ge 177, 3) := by decide +kernel
theorem dX5_cond_15 : decode cX5_cond 15 = .ok (.iconst 0, 1) := by decide +kernel
theorem dX5_cond_16 : decode cX5_cond 16 = .ok (.istore 5, 2) := by decide +kernel
theorem dX5_cond_18 : decode cX5_cond 18 = .ok (.iconst 0, 1) := by decide +kernel
theorem dX5_cond_19 : decode cX5_cond 19 = .ok (.istore 6, 2) := by decide +kernel
theorem dX5_cond_21 : decode cX5_cond 21 = .ok (.iload 6, 2) := by decide +kernel
theorem dX5_cond_23 : decode cX5_cond 23 = .ok (.sipush 220, 3) := by decide +kernel
theorem dX5_cond_26 : decode cX5_cond 26 = .ok (.if_icmp .ge 34, 3) := by decide +kernel
theorem dX5_cond_29 : decode cX5_cond 29 = .ok (.aload_n 0, 1) := by decide +kernel
theorem dX5_cond_30 : decode cX5_cond 30 = .ok (.getfield 46, 3) := by decide +kernel
theorem dX5_cond_33 : decode cX5_cond 33 = .ok (.bipush 13, 2) := by decide +kernel
theorem dX5_cond_35 : decode cX5_cond 35 = .ok (.if_icmp .ne 25, 3) := by decide +kernel
theorem dX5_cond_38 : decode cX5_cond 38 = .ok (.iload 5, 2) := by decide +kernel
theorem dX5_cond_40 : decode cX5_cond 40 = .ok (.ifCond .ne 7, 3) := by decide +kernel
theorem dX5_cond_43 : decode cX5_cond 43 = .ok (.iconst 1, 1) := by decide +kernel
theorem dX5_cond_44 : decode cX5_cond 44 = .ok (.goto 4, 3) := by decide +kernel
theorem dX5_cond_47 : decode cX5_cond 47 = .ok (.iconst 0, 1) := by decide +kernel
theorem dX5_cond_48 : decode cX5_cond 48 = .ok (.istore 5, 2) := by decide +kernel
theorem dX5_cond_50 : decode cX5_cond 50 = .ok (.aload_n 0, 1) := by decide +kernel
theorem dX5_cond_51 : decode cX5_cond 51 = .ok (.invokevirtual 49, 3) := by decide +kernel
theorem dX5_cond_54 : decode cX5_cond 54 = .ok (.iinc 6 1, 3) := by decide +kernel
theorem dX5_cond_57 : decode cX5_cond 57 = .ok (.goto (-36), 3) := by decide +kernel
theorem dX5_cond_60 : decode cX5_cond 60 = .ok (.aload_n 0, 1) := by decide +kernel
theorem dX5_cond_61 : decode cX5_cond 61 = .ok (.getfield 46, 3) := by decide +kernel
theorem dX5_cond_64 : decode cX5_cond 64 = .ok (.iconst 3, 1) := by decide +kernel
theorem dX5_cond_65 : decode cX5_cond 65 = .ok (.if_icmp .ne 14, 3) := by decide +kernel
theorem dX5_cond_68 : decode cX5_cond 68 = .ok (.aload_n 0, 1) := by decide +kernel
theorem dX5_cond_69 : decode cX5_cond 69 = .ok (.iload_n 1, 1) := by decide +kernel
theorem dX5_cond_70 : decode cX5_cond 70 = .ok (.invokevirtual 59, 3) := by decide +kernel
theorem dX5_cond_73 : decode cX5_cond 73 = .ok (.ifCond .eq 13, 3) := by decide +kernel
theorem dX5_cond_76 : decode cX5_cond 76 = .ok (.goto 12, 3) := by decide +kernel
theorem dX5_cond_79 : decode cX5_cond 79 = .ok (.aload_n 0, 1) := by decide +kernel
theorem dX5_cond_80 : decode cX5_cond 80 = .ok (.invokevirtual 62, 3) := by decide +kernel
theorem dX5_cond_83 : decode cX5_cond 83 = .ok (.ifCond .ne 5, 3) := by decide +kernel
theorem dX5_cond_86 : decode cX5_cond 86 = .ok (.iconst 0, 1) := by decide +kernel
theorem dX5_cond_87 : decode cX5_cond 87 = .ok (.ireturn, 1) := by decide +kernel
theorem dX5_cond_88 : decode cX5_cond 88 = .ok (.iload 5, 2) := by decide +kernel
theorem dX5_cond_90 : decode cX5_cond 90 = .ok (.ifCond .eq 13, 3) := by decide +kernel
theorem dX5_cond_93 : decode cX5_cond 93 = .ok (.aload_n 0, 1) := by decide +kernel
theorem dX5_cond_94 : decode cX5_cond 94 = .ok (.getfield 18, 3) := by decide +kernel
theorem dX5_cond_97 : decode cX5_cond 97 = .ok (.bipush 10, 2) := by decide +kernel
theorem dX5_cond_99 : decode cX5_cond 99 = .ok (.iconst 0, 1) := by decide +kernel
theorem dX5_cond_100 : decode cX5_cond 100 = .ok (.invokevirtual 66, 3) := by decide +kernel
theorem dX5_cond_103 : decode cX5_cond 103 = .ok (.iload_n 3, 1) := by decide +kernel
theorem dX5_cond_104 : decode cX5_cond 104 = .ok (.ifCond .eq 13, 3) := by decide +kernel
theorem dX5_cond_107 : decode cX5_cond 107 = .ok (.aload_n 0, 1) := by decide +kernel
theorem dX5_cond_108 : decode cX5_cond 108 = .ok (.getfield 18, 3) := by decide +kernel
theorem dX5_cond_111 : decode cX5_cond 111 = .ok (.bipush 11, 2) := by decide +kernel
theorem dX5_cond_113 : decode cX5_cond 113 = .ok (.iconst 0, 1) := by decide +kernel
theorem dX5_cond_114 : decode cX5_cond 114 = .ok (.invokevirtual 66, 3) := by decide +kernel
theorem dX5_cond_117 : decode cX5_cond 117 = .ok (.aload_n 0, 1) := by decide +kernel
theorem dX5_cond_118 : decode cX5_cond 118 = .ok (.getfield 46, 3) := by decide +kernel
theorem dX5_cond_121 : decode cX5_cond 121 = .ok (.bipush 12, 2) := by decide +kernel
theorem dX5_cond_123 : decode cX5_cond 123 = .ok (.if_icmp .ne 7, 3) := by decide +kernel
theorem dX5_cond_126 : decode cX5_cond 126 = .ok (.iconst 1, 1) := by decide +kernel
theorem dX5_cond_127 : decode cX5_cond 127 = .ok (.goto 4, 3) := by decide +kernel
theorem dX5_cond_130 : decode cX5_cond 130 = .ok (.iconst 0, 1) := by decide +kernel
theorem dX5_cond_131 : decode cX5_cond 131 = .ok (.istore_n 3, 1) := by decide +kernel
theorem dX5_cond_132 : decode cX5_cond 132 = .ok (.iload_n 2, 1) := by decide +kernel
theorem dX5_cond_133 : decode cX5_cond 133 = .ok (.ifCond .eq 17, 3) := by decide +kernel
theorem dX5_cond_136 : decode cX5_cond 136 = .ok (.iload_n 3, 1) := by decide +kernel
theorem dX5_cond_137 : decode cX5_cond 137 = .ok (.ifCond .ne 13, 3) := by decide +kernel
theorem dX5_cond_140 : decode cX5_cond 140 = .ok (.aload_n 0, 1) := by decide +kernel
theorem dX5_cond_141 : decode cX5_cond 141 = .ok (.getfield 18, 3) := by decide +kernel
theorem dX5_cond_144 : decode cX5_cond 144 = .ok (.bipush 12, 2) := by decide +kernel
theorem dX5_cond_146 : decode cX5_cond 146 = .ok (.iconst 0, 1) := by decide +kernel
theorem dX5_cond_147 : decode cX5_cond 147 = .ok (.invokevirtual 66, 3) := by decide +kernel
theorem dX5_cond_150 : decode cX5_cond 150 = .ok (.iload_n 3, 1) := by decide +kernel
theorem dX5_cond_151 : decode cX5_cond 151 = .ok (.ifCond .ne 18, 3) := by decide +kernel
theorem dX5_cond_154 : decode cX5_cond 154 = .ok (.aload_n 0, 1) := by decide +kernel
theorem dX5_cond_155 : decode cX5_cond 155 = .ok (.getfield 46, 3) := by decide +kernel
theorem dX5_cond_158 : decode cX5_cond 158 = .ok (.bipush 11, 2) := by decide +kernel
theorem dX5_cond_160 : decode cX5_cond 160 = .ok (.if_icmp .ne 7, 3) := by decide +kernel
theorem dX5_cond_163 : decode cX5_cond 163 = .ok (.iconst 1, 1) := by decide +kernel
theorem dX5_cond_164 : decode cX5_cond 164 = .ok (.goto 4, 3) := by decide +kernel
theorem dX5_cond_167 : decode cX5_cond 167 = .ok (.iconst 0, 1) := by decide +kernel
theorem dX5_cond_168 : decode cX5_cond 168 = .ok (.istore_n 2, 1) := by decide +kernel
theorem dX5_cond_169 : decode cX5_cond 169 = .ok (.iload_n 3, 1) := by decide +kernel
theorem dX5_cond_170 : decode cX5_cond 170 = .ok (.ifCond .ne 9, 3) := by decide +kernel
theorem dX5_cond_173 : decode cX5_cond 173 = .ok (.iload_n 2, 1) := by decide +kernel
theorem dX5_cond_174 : decode cX5_cond 174 = .ok (.ifCond .ne 5, 3) := by decide +kernel
theorem dX5_cond_177 : decode cX5_cond 177 = .ok (.iconst 1, 1) := by decide +kernel
theorem dX5_cond_178 : decode cX5_cond 178 = .ok (.ireturn, 1) := by decide +kernel
theorem dX5_cond_179 : decode cX5_cond 179 = .ok (.aload_n 0, 1) := by decide +kernel
theorem dX5_cond_180 : decode cX5_cond 180 = .ok (.invokevirtual 49, 3) := by decide +kernel
theorem dX5_cond_183 : decode cX5_cond 183 = .ok (.iinc 4 1, 3) := by decide +kernel
theorem dX5_cond_186 : decode cX5_cond 186 = .ok (.goto (-179), 3) := by decide +kernel
theorem dX5_cond_189 : decode cX5_cond 189 = .ok (.iconst 0, 1) := by decide +kernel
theorem dX5_cond_190 : decode cX5_cond 190 = .ok (.ireturn, 1) := by decide +kernel
theorem dX5_bracket_0 : decode cX5_bracket 0 = .ok (.iload_n 1, 1) := by decide +kernel
theorem dX5_bracket_1 : decode cX5_bracket 1 = .ok (.iconst 4, 1) := by decide +kernel
theorem dX5_bracket_2 : decode cX5_bracket 2 = .ok (.if_icmp .lt 5, 3) := by decide +kernel
theorem dX5_bracket_5 : decode cX5_bracket 5 = .ok (.iconst 0, 1) := by decide +kernel
theorem dX5_bracket_6 : decode cX5_bracket 6 = .ok (.ireturn, 1) := by decide +kernel
theorem dX5_bracket_7 : decode cX5_bracket 7 = .ok (.aload_n 0, 1) := by decide +kernel
theorem dX5_bracket_8 : decode cX5_bracket 8 = .ok (.invokevirtual 49, 3) := by decide +kernel
theorem dX5_bracket_11 : decode cX5_bracket 11 = .ok (.aload_n 0, 1) := by decide +kernel
theorem dX5_bracket_12 : decode cX5_bracket 12 = .ok (.iload_n 1, 1) := by decide +kernel
theorem dX5_bracket_13 : decode cX5_bracket 13 = .ok (.iconst 1, 1) := by decide +kernel
theorem dX5_bracket_14 : decode cX5_bracket 14 = .ok (.iadd, 1) := by decide +kernel
theorem dX5_bracket_15 : decode cX5_bracket 15 = .ok (.invokevirtual 52, 3) := by decide +kernel
theorem dX5_bracket_18 : decode cX5_bracket 18 = .ok (.ifCond .eq 11, 3) := by decide +kernel
theorem dX5_bracket_21 : decode cX5_bracket 21 = .ok (.aload_n 0, 1) := by decide +kernel
theorem dX5_bracket_22 : decode cX5_bracket 22 = .ok (.getfield 46, 3) := by decide +kernel
theorem dX5_bracket_25 : decode cX5_bracket 25 = .ok (.iconst 4, 1) := by decide +kernel
theorem dX5_bracket_26 : decode cX5_bracket 26 = .ok (.if_icmp .eq 5, 3) := by decide +kernel
theorem dX5_bracket_29 : decode cX5_bracket 29 = .ok (.iconst 0, 1) := by decide +kernel
theorem dX5_bracket_30 : decode cX5_bracket 30 = .ok (.ireturn, 1) := by decide +kernel
theorem dX5_bracket_31 : decode cX5_bracket 31 = .ok (.aload_n 0, 1) := by decide +kernel
theorem dX5_bracket_32 : decode cX5_bracket 32 = .ok (.invokevirtual 49, 3) := by decide +kernel
theorem dX5_bracket_35 : decode cX5_bracket 35 = .ok (.iconst 1, 1) := by decide +kernel
theorem dX5_bracket_36 : decode cX5_bracket 36 = .ok (.ireturn, 1) := by decide +kernel
theorem dX5_comparison_0 : decode cX5_comparison 0 = .ok (.aload_n 0, 1) := by decide +kernel
theorem dX5_comparison_1 : decode cX5_comparison 1 = .ok (.invokevirtual 70, 3) := by decide +kernel
theorem dX5_comparison_4 : decode cX5_comparison 4 = .ok (.ifCond .ne 5, 3) := by decide +kernel
theorem dX5_comparison_7 : decode cX5_comparison 7 = .ok (.iconst 0, 1) := by decide +kernel
theorem dX5_comparison_8 : decode cX5_comparison 8 = .ok (.ireturn, 1) := by decide +kernel
theorem dX5_comparison_9 : decode cX5_comparison 9 = .ok (.aload_n 0, 1) := by decide +kernel
theorem dX5_comparison_10 : decode cX5_comparison 10 = .ok (.getfield 46, 3) := by decide +kernel
theorem dX5_comparison_13 : decode cX5_comparison 13 = .ok (.bipush 6, 2) := by decide +kernel
theorem dX5_comparison_15 : decode cX5_comparison 15 = .ok (.if_icmp .ne 8, 3) := by decide +kernel
theorem dX5_comparison_18 : decode cX5_comparison 18 = .ok (.bipush 7, 2) := by decide +kernel
theorem dX5_comparison_20 : decode cX5_comparison 20 = .ok (.goto 19, 3) := by decide +kernel
theorem dX5_comparison_23 : decode cX5_comparison 23 = .ok (.aload_n 0, 1) := by decide +kernel
theorem dX5_comparison_24 : decode cX5_comparison 24 = .ok (.getfield 46, 3) := by decide +kernel
theorem dX5_comparison_27 : decode cX5_comparison 27 = .ok (.bipush 7, 2) := by decide +kernel
theorem dX5_comparison_29 : decode cX5_comparison 29 = .ok (.if_icmp .ne 8, 3) := by decide +kernel
theorem dX5_comparison_32 : decode cX5_comparison 32 = .ok (.bipush 8, 2) := by decide +kernel
theorem dX5_comparison_34 : decode cX5_comparison 34 = .ok (.goto 5, 3) := by decide +kernel
theorem dX5_comparison_37 : decode cX5_comparison 37 = .ok (.bipush 9, 2) := by decide +kernel
theorem dX5_comparison_39 : decode cX5_comparison 39 = .ok (.istore_n 1, 1) := by decide +kernel
theorem dX5_comparison_40 : decode cX5_comparison 40 = .ok (.aload_n 0, 1) := by decide +kernel
theorem dX5_comparison_41 : decode cX5_comparison 41 = .ok (.getfield 46, 3) := by decide +kernel
theorem dX5_comparison_44 : decode cX5_comparison 44 = .ok (.bipush 6, 2) := by decide +kernel
theorem dX5_comparison_46 : decode cX5_comparison 46 = .ok (.if_icmp .eq 23, 3) := by decide +kernel
theorem dX5_comparison_49 : decode cX5_comparison 49 = .ok (.aload_n 0, 1) := by decide +kernel
theorem dX5_comparison_50 : decode cX5_comparison 50 = .ok (.getfield 46, 3) := by decide +kernel
theorem dX5_comparison_53 : decode cX5_comparison 53 = .ok (.bipush 7, 2) := by decide +kernel
theorem dX5_comparison_55 : decode cX5_comparison 55 = .ok (.if_icmp .eq 14, 3) := by decide +kernel
theorem dX5_comparison_58 : decode cX5_comparison 58 = .ok (.aload_n 0, 1) := by decide +kernel
theorem dX5_comparison_59 : decode cX5_comparison 59 = .ok (.getfield 46, 3) := by decide +kernel
theorem dX5_comparison_62 : decode cX5_comparison 62 = .ok (.bipush 8, 2) := by decide +kernel
theorem dX5_comparison_64 : decode cX5_comparison 64 = .ok (.if_icmp .eq 5, 3) := by decide +kernel
theorem dX5_comparison_67 : decode cX5_comparison 67 = .ok (.iconst 0, 1) := by decide +kernel
theorem dX5_comparison_68 : decode cX5_comparison 68 = .ok (.ireturn, 1) := by decide +kernel
theorem dX5_comparison_69 : decode cX5_comparison 69 = .ok (.aload_n 0, 1) := by decide +kernel
theorem dX5_comparison_70 : decode cX5_comparison 70 = .ok (.invokevirtual 49, 3) := by decide +kernel
theorem dX5_comparison_73 : decode cX5_comparison 73 = .ok (.aload_n 0, 1) := by decide +kernel
theorem dX5_comparison_74 : decode cX5_comparison 74 = .ok (.invokevirtual 70, 3) := by decide +kernel
theorem dX5_comparison_77 : decode cX5_comparison 77 = .ok (.ifCond .ne 5, 3) := by decide +kernel
theorem dX5_comparison_80 : decode cX5_comparison 80 = .ok (.iconst 0, 1) := by decide +kernel
theorem dX5_comparison_81 : decode cX5_comparison 81 = .ok (.ireturn, 1) := by decide +kernel
theorem dX5_comparison_82 : decode cX5_comparison 82 = .ok (.aload_n 0, 1) := by decide +kernel
theorem dX5_comparison_83 : decode cX5_comparison 83 = .ok (.getfield 18, 3) := by decide +kernel
theorem dX5_comparison_86 : decode cX5_comparison 86 = .ok (.iload_n 1, 1) := by decide +kernel
theorem dX5_comparison_87 : decode cX5_comparison 87 = .ok (.iconst 0, 1) := by decide +kernel
theorem dX5_comparison_88 : decode cX5_comparison 88 = .ok (.invokevirtual 66, 3) := by decide +kernel
theorem dX5_comparison_91 : decode cX5_comparison 91 = .ok (.iconst 1, 1) := by decide +kernel
theorem dX5_comparison_92 : decode cX5_comparison 92 = .ok (.ireturn, 1) := by decide +kernel
theorem dX5_sum_0 : decode cX5_sum 0 = .ok (.aload_n 0, 1) := by decide +kernel
theorem dX5_sum_1 : decode cX5_sum 1 = .ok (.invokevirtual 73, 3) := by decide +kernel
theorem dX5_sum_4 : decode cX5_sum 4 = .ok (.ifCond .ne 5, 3) := by decide +kernel
theorem dX5_sum_7 : decode cX5_sum 7 = .ok (.iconst 0, 1) := by decide +kernel
theorem dX5_sum_8 : decode cX5_sum 8 = .ok (.ireturn, 1) := by decide +kernel
theorem dX5_sum_9 : decode cX5_sum 9 = .ok (.iconst 0, 1) := by decide +kernel
theorem dX5_sum_10 : decode cX5_sum 10 = .ok (.istore_n 1, 1) := by decide +kernel
theorem dX5_sum_11 : decode cX5_sum 11 = .ok (.iload_n 1, 1) := by decide +kernel
theorem dX5_sum_12 : decode cX5_sum 12 = .ok (.sipush 220, 3) := by decide +kernel
theorem dX5_sum_15 : decode cX5_sum 15 = .ok (.if_icmp .ge 40, 3) := by decide +kernel
theorem dX5_sum_18 : decode cX5_sum 18 = .ok (.aload_n 0, 1) := by decide +kernel
theorem dX5_sum_19 : decode cX5_sum 19 = .ok (.getfield 46, 3) := by decide +kernel
theorem dX5_sum_22 : decode cX5_sum 22 = .ok (.iconst 5, 1) := by decide +kernel
theorem dX5_sum_23 : decode cX5_sum 23 = .ok (.if_icmp .ne 32, 3) := by decide +kernel
theorem dX5_sum_26 : decode cX5_sum 26 = .ok (.aload_n 0, 1) := by decide +kernel
theorem dX5_sum_27 : decode cX5_sum 27 = .ok (.invokevirtual 49, 3) := by decide +kernel
theorem dX5_sum_30 : decode cX5_sum 30 = .ok (.aload_n 0, 1) := by decide +kernel
theorem dX5_sum_31 : decode cX5_sum 31 = .ok (.invokevirtual 73, 3) := by decide +kernel
theorem dX5_sum_34 : decode cX5_sum 34 = .ok (.ifCond .ne 5, 3) := by decide +kernel
theorem dX5_sum_37 : decode cX5_sum 37 = .ok (.iconst 0, 1) := by decide +kernel
theorem dX5_sum_38 : decode cX5_sum 38 = .ok (.ireturn, 1) := by decide +kernel
theorem dX5_sum_39 : decode cX5_sum 39 = .ok (.aload_n 0, 1) := by decide +kernel
theorem dX5_sum_40 : decode cX5_sum 40 = .ok (.getfield 18, 3) := by decide +kernel
theorem dX5_sum_43 : decode cX5_sum 43 = .ok (.bipush 6, 2) := by decide +kernel
theorem dX5_sum_45 : decode cX5_sum 45 = .ok (.iconst 0, 1) := by decide +kernel
theorem dX5_sum_46 : decode cX5_sum 46 = .ok (.invokevirtual 66, 3) := by decide +kernel
theorem dX5_sum_49 : decode cX5_sum 49 = .ok (.iinc 1 1, 3) := by decide +kernel
theorem dX5_sum_52 : decode cX5_sum 52 = .ok (.goto (-41), 3) := by decide +kernel
theorem dX5_sum_55 : decode cX5_sum 55 = .ok (.iconst 1, 1) := by decide +kernel
theorem dX5_sum_56 : decode cX5_sum 56 = .ok (.ireturn, 1) := by decide +kernel
theorem dX5_value_0 : decode cX5_value 0 = .ok (.aload_n 0, 1) := by decide +kernel
theorem dX5_value_1 : decode cX5_value 1 = .ok (.getfield 46, 3) := by decide +kernel
theorem dX5_value_4 : decode cX5_value 4 = .ok (.tableswitch 134 2 18 #[84, 134, 134, 134, 134, 134, 134, 134, 134, 134, 134, 134, 93, 104, 116, 122, 128], 84) := by decide +kernel
theorem dX5_value_88 : decode cX5_value 88 = .ok (.aload_n 0, 1) := by decide +kernel
theorem dX5_value_89 : decode cX5_value 89 = .ok (.iconst 0, 1) := by decide +kernel
theorem dX5_value_90 : decode cX5_value 90 = .ok (.sipush 999, 3) := by decide +kernel
theorem dX5_value_93 : decode cX5_value 93 = .ok (.invokevirtual 76, 3) := by decide +kernel
theorem dX5_value_96 : decode cX5_value 96 = .ok (.ireturn, 1) := by decide +kernel
theorem dX5_value_97 : decode cX5_value 97 = .ok (.aload_n 0, 1) := by decide +kernel
theorem dX5_value_98 : decode cX5_value 98 = .ok (.invokevirtual 49, 3) := by decide +kernel
theorem dX5_value_101 : decode cX5_value 101 = .ok (.aload_n 0, 1) := by decide +kernel
theorem dX5_value_102 : decode cX5_value 102 = .ok (.iconst 1, 1) := by decide +kernel
theorem dX5_value_103 : decode cX5_value 103 = .ok (.iconst 4, 1) := by decide +kernel
theorem dX5_value_104 : decode cX5_value 104 = .ok (.invokevirtual 76, 3) := by decide +kernel
theorem dX5_value_107 : decode cX5_value 107 = .ok (.ireturn, 1) := by decide +kernel
theorem dX5_value_108 : decode cX5_value 108 = .ok (.aload_n 0, 1) := by decide +kernel
theorem dX5_value_109 : decode cX5_value 109 = .ok (.invokevirtual 49, 3) := by decide +kernel
theorem dX5_value_112 : decode cX5_value 112 = .ok (.aload_n 0, 1) := by decide +kernel
theorem dX5_value_113 : decode cX5_value 113 = .ok (.iconst 2, 1) := by decide +kernel
theorem dX5_value_114 : decode cX5_value 114 = .ok (.bipush 9, 2) := by decide +kernel
theorem dX5_value_116 : decode cX5_value 116 = .ok (.invokevirtual 76, 3) := by decide +kernel
theorem dX5_value_119 : decode cX5_value 119 = .ok (.ireturn, 1) := by decide +kernel
theorem dX5_value_120 : decode cX5_value 120 = .ok (.aload_n 0, 1) := by decide +kernel
theorem dX5_value_121 : decode cX5_value 121 = .ok (.iconst 3, 1) := by decide +kernel
theorem dX5_value_122 : decode cX5_value 122 = .ok (.invokevirtual 80, 3) := by decide +kernel
theorem dX5_value_125 : decode cX5_value 125 = .ok (.ireturn, 1) := by decide +kernel
theorem dX5_value_126 : decode cX5_value 126 = .ok (.aload_n 0, 1) := by decide +kernel
theorem dX5_value_127 : decode cX5_value 127 = .ok (.iconst 4, 1) := by decide +kernel
theorem dX5_value_128 : decode cX5_value 128 = .ok (.invokevirtual 80, 3) := by decide +kernel
theorem dX5_value_131 : decode cX5_value 131 = .ok (.ireturn, 1) := by decide +kernel
theorem dX5_value_132 : decode cX5_value 132 = .ok (.aload_n 0, 1) := by decide +kernel
theorem dX5_value_133 : decode cX5_value 133 = .ok (.iconst 5, 1) := by decide +kernel
theorem dX5_value_134 : decode cX5_value 134 = .ok (.invokevirtual 80, 3) := by decide +kernel
theorem dX5_value_137 : decode cX5_value 137 = .ok (.ireturn, 1) := by decide +kernel
theorem dX5_value_138 : decode cX5_value 138 = .ok (.iconst 0, 1) := by decide +kernel
theorem dX5_value_139 : decode cX5_value 139 = .ok (.ireturn, 1) := by decide +kernel
theorem dX5_numbered_0 : decode cX5_numbered 0 = .ok (.aload_n 0, 1) := by decide +kernel
theorem dX5_numbered_1 : decode cX5_numbered 1 = .ok (.getfield 46, 3) := by decide +kernel
theorem dX5_numbered_4 : decode cX5_numbered 4 = .ok (.iconst 2, 1) := by decide +kernel
theorem dX5_numbered_5 : decode cX5_numbered 5 = .ok (.if_icmp .ne 16, 3) := by decide +kernel
theorem dX5_numbered_8 : decode cX5_numbered 8 = .ok (.aload_n 0, 1) := by decide +kernel
theorem dX5_numbered_9 : decode cX5_numbered 9 = .ok (.getfield 28, 3) := by decide +kernel
theorem dX5_numbered_12 : decode cX5_numbered 12 = .ok (.aload_n 0, 1) := by decide +kernel
theorem dX5_numbered_13 : decode cX5_numbered 13 = .ok (.getfield 43, 3) := by decide +kernel
theorem dX5_numbered_16 : decode cX5_numbered 16 = .ok (.iaload, 1) := by decide +kernel
theorem dX5_numbered_17 : decode cX5_numbered 17 = .ok (.iload_n 2, 1) := by decide +kernel
theorem dX5_numbered_18 : decode cX5_numbered 18 = .ok (.if_icmp .le 5, 3) := by decide +kernel
theorem dX5_numbered_21 : decode cX5_numbered 21 = .ok (.iconst 0, 1) := by decide +kernel
theorem dX5_numbered_22 : decode cX5_numbered 22 = .ok (.ireturn, 1) := by decide +kernel
theorem dX5_numbered_23 : decode cX5_numbered 23 = .ok (.aload_n 0, 1) := by decide +kernel
theorem dX5_numbered_24 : decode cX5_numbered 24 = .ok (.getfield 18, 3) := by decide +kernel
theorem dX5_numbered_27 : decode cX5_numbered 27 = .ok (.iload_n 1, 1) := by decide +kernel
theorem dX5_numbered_28 : decode cX5_numbered 28 = .ok (.aload_n 0, 1) := by decide +kernel
theorem dX5_numbered_29 : decode cX5_numbered 29 = .ok (.getfield 28, 3) := by decide +kernel
theorem dX5_numbered_32 : decode cX5_numbered 32 = .ok (.aload_n 0, 1) := by decide +kernel
theorem dX5_numbered_33 : decode cX5_numbered 33 = .ok (.getfield 43, 3) := by decide +kernel
theorem dX5_numbered_36 : decode cX5_numbered 36 = .ok (.iaload, 1) := by decide +kernel
theorem dX5_numbered_37 : decode cX5_numbered 37 = .ok (.invokevirtual 66, 3) := by decide +kernel
theorem dX5_numbered_40 : decode cX5_numbered 40 = .ok (.aload_n 0, 1) := by decide +kernel
theorem dX5_numbered_41 : decode cX5_numbered 41 = .ok (.invokevirtual 49, 3) := by decide +kernel
theorem dX5_numbered_44 : decode cX5_numbered 44 = .ok (.iconst 1, 1) := by decide +kernel
theorem dX5_numbered_45 : decode cX5_numbered 45 = .ok (.ireturn, 1) := by decide +kernel
theorem dX5_plain_0 : decode cX5_plain 0 = .ok (.aload_n 0, 1) := by decide +kernel
theorem dX5_plain_1 : decode cX5_plain 1 = .ok (.getfield 18, 3) := by decide +kernel
theorem dX5_plain_4 : decode cX5_plain 4 = .ok (.iload_n 1, 1) := by decide +kernel
theorem dX5_plain_5 : decode cX5_plain 5 = .ok (.iconst 0, 1) := by decide +kernel
theorem dX5_plain_6 : decode cX5_plain 6 = .ok (.invokevirtual 66, 3) := by decide +kernel
theorem dX5_plain_9 : decode cX5_plain 9 = .ok (.aload_n 0, 1) := by decide +kernel
theorem dX5_plain_10 : decode cX5_plain 10 = .ok (.invokevirtual 49, 3) := by decide +kernel
theorem dX5_plain_13 : decode cX5_plain 13 = .ok (.iconst 1, 1) := by decide +kernel
theorem dX5_plain_14 : decode cX5_plain 14 = .ok (.ireturn, 1) := by decide +kernel
theorem dX5_scan_0 : decode cX5_scan 0 = .ok (.aload_n 0, 1) := by decide +kernel
theorem dX5_scan_1 : decode cX5_scan 1 = .ok (.iconst 0, 1) := by decide +kernel
theorem dX5_scan_2 : decode cX5_scan 2 = .ok (.putfield 83, 3) := by decide +kernel
theorem dX5_scan_5 : decode cX5_scan 5 = .ok (.iconst 0, 1) := by decide +kernel
theorem dX5_scan_6 : decode cX5_scan 6 = .ok (.istore_n 1, 1) := by decide +kernel
theorem dX5_scan_7 : decode cX5_scan 7 = .ok (.iload_n 1, 1) := by decide +kernel
theorem dX5_scan_8 : decode cX5_scan 8 = .ok (.sipush 220, 3) := by decide +kernel
theorem dX5_scan_11 : decode cX5_scan 11 = .ok (.if_icmp .gt 104, 3) := by decide +kernel
theorem dX5_scan_14 : decode cX5_scan 14 = .ok (.aload_n 0, 1) := by decide +kernel
theorem dX5_scan_15 : decode cX5_scan 15 = .ok (.getfield 83, 3) := by decide +kernel
theorem dX5_scan_18 : decode cX5_scan 18 = .ok (.aload_n 0, 1) := by decide +kernel
theorem dX5_scan_19 : decode cX5_scan 19 = .ok (.getfield 31, 3) := by decide +kernel
theorem dX5_scan_22 : decode cX5_scan 22 = .ok (.if_icmp .ge 30, 3) := by decide +kernel
theorem dX5_scan_25 : decode cX5_scan 25 = .ok (.aload_n 0, 1) := by decide +kernel
theorem dX5_scan_26 : decode cX5_scan 26 = .ok (.getfield 9, 3) := by decide +kernel
theorem dX5_scan_29 : decode cX5_scan 29 = .ok (.aload_n 0, 1) := by decide +kernel
theorem dX5_scan_30 : decode cX5_scan 30 = .ok (.getfield 83, 3) := by decide +kernel
theorem dX5_scan_33 : decode cX5_scan 33 = .ok (.iaload, 1) := by decide +kernel
theorem dX5_scan_34 : decode cX5_scan 34 = .ok (.bipush 32, 2) := by decide +kernel
theorem dX5_scan_36 : decode cX5_scan 36 = .ok (.if_icmp .ne 16, 3) := by decide +kernel
theorem dX5_scan_39 : decode cX5_scan 39 = .ok (.aload_n 0, 1) := by decide +kernel
theorem dX5_scan_40 : decode cX5_scan 40 = .ok (.dup, 1) := by decide +kernel
theorem dX5_scan_41 : decode cX5_scan 41 = .ok (.getfield 83, 3) := by decide +kernel
theorem dX5_scan_44 : decode cX5_scan 44 = .ok (.iconst 1, 1) := by decide +kernel
theorem dX5_scan_45 : decode cX5_scan 45 = .ok (.iadd, 1) := by decide +kernel
theorem dX5_scan_46 : decode cX5_scan 46 = .ok (.putfield 83, 3) := by decide +kernel
theorem dX5_scan_49 : decode cX5_scan 49 = .ok (.goto (-35), 3) := by decide +kernel
theorem dX5_scan_52 : decode cX5_scan 52 = .ok (.aload_n 0, 1) := by decide +kernel
theorem dX5_scan_53 : decode cX5_scan 53 = .ok (.getfield 25, 3) := by decide +kernel
theorem dX5_scan_56 : decode cX5_scan 56 = .ok (.iload_n 1, 1) := by decide +kernel
theorem dX5_scan_57 : decode cX5_scan 57 = .ok (.aload_n 0, 1) := by decide +kernel
theorem dX5_scan_58 : decode cX5_scan 58 = .ok (.getfield 83, 3) := by decide +kernel
theorem dX5_scan_61 : decode cX5_scan 61 = .ok (.iastore, 1) := by decide +kernel
theorem dX5_scan_62 : decode cX5_scan 62 = .ok (.aload_n 0, 1) := by decide +kernel
theorem dX5_scan_63 : decode cX5_scan 63 = .ok (.getfield 28, 3) := by decide +kernel
theorem dX5_scan_66 : decode cX5_scan 66 = .ok (.iload_n 1, 1) := by decide +kernel
theorem dX5_scan_67 : decode cX5_scan 67 = .ok (.iconst 0, 1) := by decide +kernel
theorem dX5_scan_68 : decode cX5_scan 68 = .ok (.iastore, 1) := by decide +kernel
theorem dX5_scan_69 : decode cX5_scan 69 = .ok (.aload_n 0, 1) := by decide +kernel
theorem dX5_scan_70 : decode cX5_scan 70 = .ok (.getfield 22, 3) := by decide +kernel
theorem dX5_scan_73 : decode cX5_scan 73 = .ok (.iload_n 1, 1) := by decide +kernel
theorem dX5_scan_74 : decode cX5_scan 74 = .ok (.aload_n 0, 1) := by decide +kernel
theorem dX5_scan_75 : decode cX5_scan 75 = .ok (.getfield 83, 3) := by decide +kernel
theorem dX5_scan_78 : decode cX5_scan 78 = .ok (.aload_n 0, 1) := by decide +kernel
theorem dX5_scan_79 : decode cX5_scan 79 = .ok (.getfield 31, 3) := by decide +kernel
theorem dX5_scan_82 : decode cX5_scan 82 = .ok (.if_icmp .ge 15, 3) := by decide +kernel
theorem dX5_scan_85 : decode cX5_scan 85 = .ok (.aload_n 0, 1) := by decide +kernel
theorem dX5_scan_86 : decode cX5_scan 86 = .ok (.iload_n 1, 1) := by decide +kernel
theorem dX5_scan_87 : decode cX5_scan 87 = .ok (.aload_n 0, 1) := by decide +kernel
theorem dX5_scan_88 : decode cX5_scan 88 = .ok (.getfield 83, 3) := by decide +kernel
theorem dX5_scan_91 : decode cX5_scan 91 = .ok (.invokevirtual 86, 3) := by decide +kernel
theorem dX5_scan_94 : decode cX5_scan 94 = .ok (.goto 4, 3) := by decide +kernel
theorem dX5_scan_97 : decode cX5_scan 97 = .ok (.iconst 0, 1) := by decide +kernel
theorem dX5_scan_98 : decode cX5_scan 98 = .ok (.iastore, 1) := by decide +kernel
theorem dX5_scan_99 : decode cX5_scan 99 = .ok (.aload_n 0, 1) := by decide +kernel
theorem dX5_scan_100 : decode cX5_scan 100 = .ok (.getfield 22, 3) := by decide +kernel
theorem dX5_scan_103 : decode cX5_scan 103 = .ok (.iload_n 1, 1) := by decide +kernel
theorem dX5_scan_104 : decode cX5_scan 104 = .ok (.iaload, 1) := by decide +kernel
theorem dX5_scan_105 : decode cX5_scan 105 = .ok (.ifCond .ne 4, 3) := by decide +kernel
theorem dX5_scan_108 : decode cX5_scan 108 = .ok (.return_, 1) := by decide +kernel
theorem dX5_scan_109 : decode cX5_scan 109 = .ok (.iinc 1 1, 3) := by decide +kernel
theorem dX5_scan_112 : decode cX5_scan 112 = .ok (.goto (-105), 3) := by decide +kernel
theorem dX5_scan_115 : decode cX5_scan 115 = .ok (.return_, 1) := by decide +kernel
theorem dX5_scanOne_0 : decode cX5_scanOne 0 = .ok (.aload_n 0, 1) := by decide +kernel
theorem dX5_scanOne_1 : decode cX5_scanOne 1 = .ok (.getfield 9, 3) := by decide +kernel
theorem dX5_scanOne_4 : decode cX5_scanOne 4 = .ok (.iload_n 2, 1) := by decide +kernel
theorem dX5_scanOne_5 : decode cX5_scanOne 5 = .ok (.iaload, 1) := by decide +kernel
theorem dX5_scanOne_6 : decode cX5_scanOne 6 = .ok (.invokestatic 90, 3) := by decide +kernel
theorem dX5_scanOne_9 : decode cX5_scanOne 9 = .ok (.ifCond .eq 97, 3) := by decide +kernel
theorem dX5_scanOne_12 : decode cX5_scanOne 12 = .ok (.aload_n 0, 1) := by decide +kernel
theorem dX5_scanOne_13 : decode cX5_scanOne 13 = .ok (.getfield 83, 3) := by decide +kernel
theorem dX5_scanOne_16 : decode cX5_scanOne 16 = .ok (.aload_n 0, 1) := by decide +kernel
theorem dX5_scanOne_17 : decode cX5_scanOne 17 = .ok (.getfield 31, 3) := by decide +kernel
theorem dX5_scanOne_20 : decode cX5_scanOne 20 = .ok (.if_icmp .ge 31, 3) := by decide +kernel
theorem dX5_scanOne_23 : decode cX5_scanOne 23 = .ok (.aload_n 0, 1) := by decide +kernel
theorem dX5_scanOne_24 : decode cX5_scanOne 24 = .ok (.getfield 9, 3) := by decide +kernel
theorem dX5_scanOne_27 : decode cX5_scanOne 27 = .ok (.aload_n 0, 1) := by decide +kernel
theorem dX5_scanOne_28 : decode cX5_scanOne 28 = .ok (.getfield 83, 3) := by decide +kernel
theorem dX5_scanOne_31 : decode cX5_scanOne 31 = .ok (.iaload, 1) := by decide +kernel
theorem dX5_scanOne_32 : decode cX5_scanOne 32 = .ok (.invokestatic 90, 3) := by decide +kernel
theorem dX5_scanOne_35 : decode cX5_scanOne 35 = .ok (.ifCond .eq 16, 3) := by decide +kernel
theorem dX5_scanOne_38 : decode cX5_scanOne 38 = .ok (.aload_n 0, 1) := by decide +kernel
theorem dX5_scanOne_39 : decode cX5_scanOne 39 = .ok (.dup, 1) := by decide +kernel
theorem dX5_scanOne_40 : decode cX5_scanOne 40 = .ok (.getfield 83, 3) := by decide +kernel
theorem dX5_scanOne_43 : decode cX5_scanOne 43 = .ok (.iconst 1, 1) := by decide +kernel
theorem dX5_scanOne_44 : decode cX5_scanOne 44 = .ok (.iadd, 1) := by decide +kernel
theorem dX5_scanOne_45 : decode cX5_scanOne 45 = .ok (.putfield 83, 3) := by decide +kernel
theorem dX5_scanOne_48 : decode cX5_scanOne 48 = .ok (.goto (-36), 3) := by decide +kernel
theorem dX5_scanOne_51 : decode cX5_scanOne 51 = .ok (.aload_n 0, 1) := by decide +kernel
theorem dX5_scanOne_52 : decode cX5_scanOne 52 = .ok (.getfield 83, 3) := by decide +kernel
theorem dX5_scanOne_55 : decode cX5_scanOne 55 = .ok (.iload_n 2, 1) := by decide +kernel
theorem dX5_scanOne_56 : decode cX5_scanOne 56 = .ok (.isub, 1) := by decide +kernel
theorem dX5_scanOne_57 : decode cX5_scanOne 57 = .ok (.iconst 3, 1) := by decide +kernel
theorem dX5_scanOne_58 : decode cX5_scanOne 58 = .ok (.if_icmp .le 5, 3) := by decide +kernel
theorem dX5_scanOne_61 : decode cX5_scanOne 61 = .ok (.iconst 1, 1) := by decide +kernel
theorem dX5_scanOne_62 : decode cX5_scanOne 62 = .ok (.ireturn, 1) := by decide +kernel
theorem dX5_scanOne_63 : decode cX5_scanOne 63 = .ok (.iload_n 2, 1) := by decide +kernel
theorem dX5_scanOne_64 : decode cX5_scanOne 64 = .ok (.istore_n 3, 1) := by decide +kernel
theorem dX5_scanOne_65 : decode cX5_scanOne 65 = .ok (.iload_n 3, 1) := by decide +kernel
theorem dX5_scanOne_66 : decode cX5_scanOne 66 = .ok (.aload_n 0, 1) := by decide +kernel
theorem dX5_scanOne_67 : decode cX5_scanOne 67 = .ok (.getfield 83, 3) := by decide +kernel
theorem dX5_scanOne_70 : decode cX5_scanOne 70 = .ok (.if_icmp .ge 34, 3) := by decide +kernel
theorem dX5_scanOne_73 : decode cX5_scanOne 73 = .ok (.aload_n 0, 1) := by decide +kernel
theorem dX5_scanOne_74 : decode cX5_scanOne 74 = .ok (.getfield 28, 3) := by decide +kernel
theorem dX5_scanOne_77 : decode cX5_scanOne 77 = .ok (.iload_n 1, 1) := by decide +kernel
theorem dX5_scanOne_78 : decode cX5_scanOne 78 = .ok (.aload_n 0, 1) := by decide +kernel
theorem dX5_scanOne_79 : decode cX5_scanOne 79 = .ok (.getfield 28, 3) := by decide +kernel
theorem dX5_scanOne_82 : decode cX5_scanOne 82 = .ok (.iload_n 1, 1) := by decide +kernel
theorem dX5_scanOne_83 : decode cX5_scanOne 83 = .ok (.iaload, 1) := by decide +kernel
theorem dX5_scanOne_84 : decode cX5_scanOne 84 = .ok (.bipush 10, 2) := by decide +kernel
theorem dX5_scanOne_86 : decode cX5_scanOne 86 = .ok (.imul, 1) := by decide +kernel
theorem dX5_scanOne_87 : decode cX5_scanOne 87 = .ok (.aload_n 0, 1) := by decide +kernel
theorem dX5_scanOne_88 : decode cX5_scanOne 88 = .ok (.getfield 9, 3) := by decide +kernel
theorem dX5_scanOne_91 : decode cX5_scanOne 91 = .ok (.iload_n 3, 1) := by decide +kernel
theorem dX5_scanOne_92 : decode cX5_scanOne 92 = .ok (.iaload, 1) := by decide +kernel
theorem dX5_scanOne_93 : decode cX5_scanOne 93 = .ok (.iadd, 1) := by decide +kernel
theorem dX5_scanOne_94 : decode cX5_scanOne 94 = .ok (.bipush 48, 2) := by decide +kernel
theorem dX5_scanOne_96 : decode cX5_scanOne 96 = .ok (.isub, 1) := by decide +kernel
theorem dX5_scanOne_97 : decode cX5_scanOne 97 = .ok (.iastore, 1) := by decide +kernel
theorem dX5_scanOne_98 : decode cX5_scanOne 98 = .ok (.iinc 3 1, 3) := by decide +kernel
theorem dX5_scanOne_101 : decode cX5_scanOne 101 = .ok (.goto (-36), 3) := by decide +kernel
theorem dX5_scanOne_104 : decode cX5_scanOne 104 = .ok (.iconst 2, 1) := by decide +kernel
theorem dX5_scanOne_105 : decode cX5_scanOne 105 = .ok (.ireturn, 1) := by decide +kernel
theorem dX5_scanOne_106 : decode cX5_scanOne 106 = .ok (.aload_n 0, 1) := by decide +kernel
theorem dX5_scanOne_107 : decode cX5_scanOne 107 = .ok (.getfield 9, 3) := by decide +kernel
theorem dX5_scanOne_110 : decode cX5_scanOne 110 = .ok (.iload_n 2, 1) := by decide +kernel
theorem dX5_scanOne_111 : decode cX5_scanOne 111 = .ok (.iaload, 1) := by decide +kernel
theorem dX5_scanOne_112 : decode cX5_scanOne 112 = .ok (.invokestatic 93, 3) := by decide +kernel
theorem dX5_scanOne_115 : decode cX5_scanOne 115 = .ok (.ifCond .eq 48, 3) := by decide +kernel
theorem dX5_scanOne_118 : decode cX5_scanOne 118 = .ok (.aload_n 0, 1) := by decide +kernel
theorem dX5_scanOne_119 : decode cX5_scanOne 119 = .ok (.getfield 83, 3) := by decide +kernel
theorem dX5_scanOne_122 : decode cX5_scanOne 122 = .ok (.aload_n 0, 1) := by decide +kernel
theorem dX5_scanOne_123 : decode cX5_scanOne 123 = .ok (.getfield 31, 3) := by decide +kernel
theorem dX5_scanOne_126 : decode cX5_scanOne 126 = .ok (.if_icmp .ge 31, 3) := by decide +kernel
theorem dX5_scanOne_129 : decode cX5_scanOne 129 = .ok (.aload_n 0, 1) := by decide +kernel
theorem dX5_scanOne_130 : decode cX5_scanOne 130 = .ok (.getfield 9, 3) := by decide +kernel
theorem dX5_scanOne_133 : decode cX5_scanOne 133 = .ok (.aload_n 0, 1) := by decide +kernel
theorem dX5_scanOne_134 : decode cX5_scanOne 134 = .ok (.getfield 83, 3) := by decide +kernel
theorem dX5_scanOne_137 : decode cX5_scanOne 137 = .ok (.iaload, 1) := by decide +kernel
theorem dX5_scanOne_138 : decode cX5_scanOne 138 = .ok (.invokestatic 93, 3) := by decide +kernel
theorem dX5_scanOne_141 : decode cX5_scanOne 141 = .ok (.ifCond .eq 16, 3) := by decide +kernel
theorem dX5_scanOne_144 : decode cX5_scanOne 144 = .ok (.aload_n 0, 1) := by decide +kernel
theorem dX5_scanOne_145 : decode cX5_scanOne 145 = .ok (.dup, 1) := by decide +kernel
theorem dX5_scanOne_146 : decode cX5_scanOne 146 = .ok (.getfield 83, 3) := by decide +kernel
theorem dX5_scanOne_149 : decode cX5_scanOne 149 = .ok (.iconst 1, 1) := by decide +kernel
theorem dX5_scanOne_150 : decode cX5_scanOne 150 = .ok (.iadd, 1) := by decide +kernel
theorem dX5_scanOne_151 : decode cX5_scanOne 151 = .ok (.putfield 83, 3) := by decide +kernel
theorem dX5_scanOne_154 : decode cX5_scanOne 154 = .ok (.goto (-36), 3) := by decide +kernel
theorem dX5_scanOne_157 : decode cX5_scanOne 157 = .ok (.aload_n 0, 1) := by decide +kernel
theorem dX5_scanOne_158 : decode cX5_scanOne 158 = .ok (.iload_n 2, 1) := by decide +kernel
theorem dX5_scanOne_159 : decode cX5_scanOne 159 = .ok (.invokevirtual 96, 3) := by decide +kernel
theorem dX5_scanOne_162 : decode cX5_scanOne 162 = .ok (.ireturn, 1) := by decide +kernel
theorem dX5_scanOne_163 : decode cX5_scanOne 163 = .ok (.aload_n 0, 1) := by decide +kernel
theorem dX5_scanOne_164 : decode cX5_scanOne 164 = .ok (.dup, 1) := by decide +kernel
theorem dX5_scanOne_165 : decode cX5_scanOne 165 = .ok (.getfield 83, 3) := by decide +kernel
theorem dX5_scanOne_168 : decode cX5_scanOne 168 = .ok (.iconst 1, 1) := by decide +kernel
theorem dX5_scanOne_169 : decode cX5_scanOne 169 = .ok (.iadd, 1) := by decide +kernel
theorem dX5_scanOne_170 : decode cX5_scanOne 170 = .ok (.putfield 83, 3) := by decide +kernel
theorem dX5_scanOne_173 : decode cX5_scanOne 173 = .ok (.aload_n 0, 1) := by decide +kernel
theorem dX5_scanOne_174 : decode cX5_scanOne 174 = .ok (.getfield 9, 3) := by decide +kernel
theorem dX5_scanOne_177 : decode cX5_scanOne 177 = .ok (.iload_n 2, 1) := by decide +kernel
theorem dX5_scanOne_178 : decode cX5_scanOne 178 = .ok (.iaload, 1) := by decide +kernel
theorem dX5_scanOne_179 : decode cX5_scanOne 179 = .ok (.invokestatic 100, 3) := by decide +kernel
theorem dX5_scanOne_182 : decode cX5_scanOne 182 = .ok (.ireturn, 1) := by decide +kernel
theorem dX5_isDigit_0 : decode cX5_isDigit 0 = .ok (.iload_n 0, 1) := by decide +kernel
theorem dX5_isDigit_1 : decode cX5_isDigit 1 = .ok (.bipush 48, 2) := by decide +kernel
theorem dX5_isDigit_3 : decode cX5_isDigit 3 = .ok (.bipush 57, 2) := by decide +kernel
theorem dX5_isDigit_5 : decode cX5_isDigit 5 = .ok (.invokestatic 103, 3) := by decide +kernel
theorem dX5_isDigit_8 : decode cX5_isDigit 8 = .ok (.ireturn, 1) := by decide +kernel
theorem dX5_isLetter_0 : decode cX5_isLetter 0 = .ok (.iload_n 0, 1) := by decide +kernel
theorem dX5_isLetter_1 : decode cX5_isLetter 1 = .ok (.bipush 97, 2) := by decide +kernel
theorem dX5_isLetter_3 : decode cX5_isLetter 3 = .ok (.bipush 122, 2) := by decide +kernel
theorem dX5_isLetter_5 : decode cX5_isLetter 5 = .ok (.invokestatic 103, 3) := by decide +kernel
theorem dX5_isLetter_8 : decode cX5_isLetter 8 = .ok (.ireturn, 1) := by decide +kernel
theorem dX5_word_0 : decode cX5_word 0 = .ok (.aload_n 0, 1) := by decide +kernel
theorem dX5_word_1 : decode cX5_word 1 = .ok (.iload_n 1, 1) := by decide +kernel
theorem dX5_word_2 : decode cX5_word 2 = .ok (.ldc 107, 2) := by decide +kernel
theorem dX5_word_4 : decode cX5_word 4 = .ok (.invokevirtual 109, 3) := by decide +kernel
theorem dX5_word_7 : decode cX5_word 7 = .ok (.ifCond .eq 6, 3) := by decide +kernel
theorem dX5_word_10 : decode cX5_word 10 = .ok (.bipush 10, 2) := by decide +kernel
theorem dX5_word_12 : decode cX5_word 12 = .ok (.ireturn, 1) := by decide +kernel
theorem dX5_word_13 : decode cX5_word 13 = .ok (.aload_n 0, 1) := by decide +kernel
theorem dX5_word_14 : decode cX5_word 14 = .ok (.iload_n 1, 1) := by decide +kernel
theorem dX5_word_15 : decode cX5_word 15 = .ok (.ldc 113, 2) := by decide +kernel
theorem dX5_word_17 : decode cX5_word 17 = .ok (.invokevirtual 109, 3) := by decide +kernel
theorem dX5_word_20 : decode cX5_word 20 = .ok (.ifCond .eq 6, 3) := by decide +kernel
theorem dX5_word_23 : decode cX5_word 23 = .ok (.bipush 11, 2) := by decide +kernel
theorem dX5_word_25 : decode cX5_word 25 = .ok (.ireturn, 1) := by decide +kernel
theorem dX5_word_26 : decode cX5_word 26 = .ok (.aload_n 0, 1) := by decide +kernel
theorem dX5_word_27 : decode cX5_word 27 = .ok (.iload_n 1, 1) := by decide +kernel
theorem dX5_word_28 : decode cX5_word 28 = .ok (.ldc 115, 2) := by decide +kernel
theorem dX5_word_30 : decode cX5_word 30 = .ok (.invokevirtual 109, 3) := by decide +kernel
theorem dX5_word_33 : decode cX5_word 33 = .ok (.ifCond .eq 6, 3) := by decide +kernel
theorem dX5_word_36 : decode cX5_word 36 = .ok (.bipush 12, 2) := by decide +kernel
theorem dX5_word_38 : decode cX5_word 38 = .ok (.ireturn, 1) := by decide +kernel
theorem dX5_word_39 : decode cX5_word 39 = .ok (.aload_n 0, 1) := by decide +kernel
theorem dX5_word_40 : decode cX5_word 40 = .ok (.iload_n 1, 1) := by decide +kernel
theorem dX5_word_41 : decode cX5_word 41 = .ok (.ldc 117, 2) := by decide +kernel
theorem dX5_word_43 : decode cX5_word 43 = .ok (.invokevirtual 109, 3) := by decide +kernel
theorem dX5_word_46 : decode cX5_word 46 = .ok (.ifCond .eq 6, 3) := by decide +kernel
theorem dX5_word_49 : decode cX5_word 49 = .ok (.bipush 13, 2) := by decide +kernel
theorem dX5_word_51 : decode cX5_word 51 = .ok (.ireturn, 1) := by decide +kernel
theorem dX5_word_52 : decode cX5_word 52 = .ok (.aload_n 0, 1) := by decide +kernel
theorem dX5_word_53 : decode cX5_word 53 = .ok (.iload_n 1, 1) := by decide +kernel
theorem dX5_word_54 : decode cX5_word 54 = .ok (.ldc 119, 2) := by decide +kernel
theorem dX5_word_56 : decode cX5_word 56 = .ok (.invokevirtual 109, 3) := by decide +kernel
theorem dX5_word_59 : decode cX5_word 59 = .ok (.ifCond .eq 6, 3) := by decide +kernel
theorem dX5_word_62 : decode cX5_word 62 = .ok (.bipush 14, 2) := by decide +kernel
theorem dX5_word_64 : decode cX5_word 64 = .ok (.ireturn, 1) := by decide +kernel
theorem dX5_word_65 : decode cX5_word 65 = .ok (.aload_n 0, 1) := by decide +kernel
theorem dX5_word_66 : decode cX5_word 66 = .ok (.iload_n 1, 1) := by decide +kernel
theorem dX5_word_67 : decode cX5_word 67 = .ok (.ldc 121, 2) := by decide +kernel
theorem dX5_word_69 : decode cX5_word 69 = .ok (.invokevirtual 109, 3) := by decide +kernel
theorem dX5_word_72 : decode cX5_word 72 = .ok (.ifCond .eq 6, 3) := by decide +kernel
theorem dX5_word_75 : decode cX5_word 75 = .ok (.bipush 15, 2) := by decide +kernel
theorem dX5_word_77 : decode cX5_word 77 = .ok (.ireturn, 1) := by decide +kernel
theorem dX5_word_78 : decode cX5_word 78 = .ok (.aload_n 0, 1) := by decide +kernel
theorem dX5_word_79 : decode cX5_word 79 = .ok (.iload_n 1, 1) := by decide +kernel
theorem dX5_word_80 : decode cX5_word 80 = .ok (.ldc 123, 2) := by decide +kernel
theorem dX5_word_82 : decode cX5_word 82 = .ok (.invokevirtual 109, 3) := by decide +kernel
theorem dX5_word_85 : decode cX5_word 85 = .ok (.ifCond .eq 6, 3) := by decide +kernel
theorem dX5_word_88 : decode cX5_word 88 = .ok (.bipush 16, 2) := by decide +kernel
theorem dX5_word_90 : decode cX5_word 90 = .ok (.ireturn, 1) := by decide +kernel
theorem dX5_word_91 : decode cX5_word 91 = .ok (.aload_n 0, 1) := by decide +kernel
theorem dX5_word_92 : decode cX5_word 92 = .ok (.iload_n 1, 1) := by decide +kernel
theorem dX5_word_93 : decode cX5_word 93 = .ok (.ldc 125, 2) := by decide +kernel
theorem dX5_word_95 : decode cX5_word 95 = .ok (.invokevirtual 109, 3) := by decide +kernel
theorem dX5_word_98 : decode cX5_word 98 = .ok (.ifCond .eq 6, 3) := by decide +kernel
theorem dX5_word_101 : decode cX5_word 101 = .ok (.bipush 17, 2) := by decide +kernel
theorem dX5_word_103 : decode cX5_word 103 = .ok (.ireturn, 1) := by decide +kernel
theorem dX5_word_104 : decode cX5_word 104 = .ok (.aload_n 0, 1) := by decide +kernel
theorem dX5_word_105 : decode cX5_word 105 = .ok (.iload_n 1, 1) := by decide +kernel
theorem dX5_word_106 : decode cX5_word 106 = .ok (.ldc 127, 2) := by decide +kernel
theorem dX5_word_108 : decode cX5_word 108 = .ok (.invokevirtual 109, 3) := by decide +kernel
theorem dX5_word_111 : decode cX5_word 111 = .ok (.ifCond .eq 8, 3) := by decide +kernel
theorem dX5_word_114 : decode cX5_word 114 = .ok (.bipush 18, 2) := by decide +kernel
theorem dX5_word_116 : decode cX5_word 116 = .ok (.goto 4, 3) := by decide +kernel
theorem dX5_word_119 : decode cX5_word 119 = .ok (.iconst 1, 1) := by decide +kernel
theorem dX5_word_120 : decode cX5_word 120 = .ok (.ireturn, 1) := by decide +kernel
theorem dX5_spells_0 : decode cX5_spells 0 = .ok (.aload_n 0, 1) := by decide +kernel
theorem dX5_spells_1 : decode cX5_spells 1 = .ok (.getfield 83, 3) := by decide +kernel
theorem dX5_spells_4 : decode cX5_spells 4 = .ok (.iload_n 1, 1) := by decide +kernel
theorem dX5_spells_5 : decode cX5_spells 5 = .ok (.isub, 1) := by decide +kernel
theorem dX5_spells_6 : decode cX5_spells 6 = .ok (.aload_n 2, 1) := by decide +kernel
theorem dX5_spells_7 : decode cX5_spells 7 = .ok (.invokevirtual 129, 3) := by decide +kernel
theorem dX5_spells_10 : decode cX5_spells 10 = .ok (.if_icmp .eq 5, 3) := by decide +kernel
theorem dX5_spells_13 : decode cX5_spells 13 = .ok (.iconst 0, 1) := by decide +kernel
theorem dX5_spells_14 : decode cX5_spells 14 = .ok (.ireturn, 1) := by decide +kernel
theorem dX5_spells_15 : decode cX5_spells 15 = .ok (.iconst 0, 1) := by decide +kernel
theorem dX5_spells_16 : decode cX5_spells 16 = .ok (.istore_n 3, 1) := by decide +kernel
theorem dX5_spells_17 : decode cX5_spells 17 = .ok (.iload_n 3, 1) := by decide +kernel
theorem dX5_spells_18 : decode cX5_spells 18 = .ok (.aload_n 2, 1) := by decide +kernel
theorem dX5_spells_19 : decode cX5_spells 19 = .ok (.invokevirtual 129, 3) := by decide +kernel
theorem dX5_spells_22 : decode cX5_spells 22 = .ok (.if_icmp .ge 27, 3) := by decide +kernel
theorem dX5_spells_25 : decode cX5_spells 25 = .ok (.aload_n 0, 1) := by decide +kernel
theorem dX5_spells_26 : decode cX5_spells 26 = .ok (.getfield 9, 3) := by decide +kernel
theorem dX5_spells_29 : decode cX5_spells 29 = .ok (.iload_n 1, 1) := by decide +kernel
theorem dX5_spells_30 : decode cX5_spells 30 = .ok (.iload_n 3, 1) := by decide +kernel
theorem dX5_spells_31 : decode cX5_spells 31 = .ok (.iadd, 1) := by decide +kernel
theorem dX5_spells_32 : decode cX5_spells 32 = .ok (.iaload, 1) := by decide +kernel
theorem dX5_spells_33 : decode cX5_spells 33 = .ok (.aload_n 2, 1) := by decide +kernel
theorem dX5_spells_34 : decode cX5_spells 34 = .ok (.iload_n 3, 1) := by decide +kernel
theorem dX5_spells_35 : decode cX5_spells 35 = .ok (.invokevirtual 134, 3) := by decide +kernel
theorem dX5_spells_38 : decode cX5_spells 38 = .ok (.if_icmp .eq 5, 3) := by decide +kernel
theorem dX5_spells_41 : decode cX5_spells 41 = .ok (.iconst 0, 1) := by decide +kernel
theorem dX5_spells_42 : decode cX5_spells 42 = .ok (.ireturn, 1) := by decide +kernel
theorem dX5_spells_43 : decode cX5_spells 43 = .ok (.iinc 3 1, 3) := by decide +kernel
theorem dX5_spells_46 : decode cX5_spells 46 = .ok (.goto (-29), 3) := by decide +kernel
theorem dX5_spells_49 : decode cX5_spells 49 = .ok (.iconst 1, 1) := by decide +kernel
theorem dX5_spells_50 : decode cX5_spells 50 = .ok (.ireturn, 1) := by decide +kernel
theorem dX5_sign_0 : decode cX5_sign 0 = .ok (.iload_n 0, 1) := by decide +kernel
theorem dX5_sign_1 : decode cX5_sign 1 = .ok (.tableswitch 125 40 62 #[107, 109, 125, 111, 125, 125, 125, 125, 125, 125, 125, 125, 125, 125, 125, 125, 125, 125, 125, 122, 113, 116, 119], 107) := by decide +kernel
theorem dX5_sign_108 : decode cX5_sign 108 = .ok (.iconst 3, 1) := by decide +kernel
theorem dX5_sign_109 : decode cX5_sign 109 = .ok (.ireturn, 1) := by decide +kernel
theorem dX5_sign_110 : decode cX5_sign 110 = .ok (.iconst 4, 1) := by decide +kernel
theorem dX5_sign_111 : decode cX5_sign 111 = .ok (.ireturn, 1) := by decide +kernel
theorem dX5_sign_112 : decode cX5_sign 112 = .ok (.iconst 5, 1) := by decide +kernel
theorem dX5_sign_113 : decode cX5_sign 113 = .ok (.ireturn, 1) := by decide +kernel
theorem dX5_sign_114 : decode cX5_sign 114 = .ok (.bipush 6, 2) := by decide +kernel
theorem dX5_sign_116 : decode cX5_sign 116 = .ok (.ireturn, 1) := by decide +kernel
theorem dX5_sign_117 : decode cX5_sign 117 = .ok (.bipush 7, 2) := by decide +kernel
theorem dX5_sign_119 : decode cX5_sign 119 = .ok (.ireturn, 1) := by decide +kernel
theorem dX5_sign_120 : decode cX5_sign 120 = .ok (.bipush 8, 2) := by decide +kernel
theorem dX5_sign_122 : decode cX5_sign 122 = .ok (.ireturn, 1) := by decide +kernel
theorem dX5_sign_123 : decode cX5_sign 123 = .ok (.bipush 9, 2) := by decide +kernel
theorem dX5_sign_125 : decode cX5_sign 125 = .ok (.ireturn, 1) := by decide +kernel
theorem dX5_sign_126 : decode cX5_sign 126 = .ok (.iconst 1, 1) := by decide +kernel
theorem dX5_sign_127 : decode cX5_sign 127 = .ok (.ireturn, 1) := by decide +kernel
theorem dX6_init_0 : decode cX6_init 0 = .ok (.aload_n 0, 1) := by decide +kernel
theorem dX6_init_1 : decode cX6_init 1 = .ok (.invokespecial 3, 3) := by decide +kernel
theorem dX6_init_4 : decode cX6_init 4 = .ok (.aload_n 0, 1) := by decide +kernel
theorem dX6_init_5 : decode cX6_init 5 = .ok (.bipush 10, 2) := by decide +kernel
theorem dX6_init_7 : decode cX6_init 7 = .ok (.newarray .int, 2) := by decide +kernel
theorem dX6_init_9 : decode cX6_init 9 = .ok (.putfield 9, 3) := by decide +kernel
theorem dX6_init_12 : decode cX6_init 12 = .ok (.aload_n 0, 1) := by decide +kernel
theorem dX6_init_13 : decode cX6_init 13 = .ok (.iconst 5, 1) := by decide +kernel
theorem dX6_init_14 : decode cX6_init 14 = .ok (.newarray .int, 2) := by decide +kernel
theorem dX6_init_16 : decode cX6_init 16 = .ok (.putfield 15, 3) := by decide +kernel
theorem dX6_init_19 : decode cX6_init 19 = .ok (.aload_n 0, 1) := by decide +kernel
theorem dX6_init_20 : decode cX6_init 20 = .ok (.bipush 25, 2) := by decide +kernel
theorem dX6_init_22 : decode cX6_init 22 = .ok (.newarray .int, 2) := by decide +kernel
theorem dX6_init_24 : decode cX6_init 24 = .ok (.putfield 18, 3) := by decide +kernel
theorem dX6_init_27 : decode cX6_init 27 = .ok (.return_, 1) := by decide +kernel
theorem dX6_find_0 : decode cX6_find 0 = .ok (.aload_n 0, 1) := by decide +kernel
theorem dX6_find_1 : decode cX6_find 1 = .ok (.iload_n 2, 1) := by decide +kernel
theorem dX6_find_2 : decode cX6_find 2 = .ok (.putfield 21, 3) := by decide +kernel
theorem dX6_find_5 : decode cX6_find 5 = .ok (.aload_n 0, 1) := by decide +kernel
theorem dX6_find_6 : decode cX6_find 6 = .ok (.iconst 0, 1) := by decide +kernel
theorem dX6_find_7 : decode cX6_find 7 = .ok (.putfield 25, 3) := by decide +kernel
theorem dX6_find_10 : decode cX6_find 10 = .ok (.aload_n 0, 1) := by decide +kernel
theorem dX6_find_11 : decode cX6_find 11 = .ok (.iconst 0, 1) := by decide +kernel
theorem dX6_find_12 : decode cX6_find 12 = .ok (.putfield 28, 3) := by decide +kernel
theorem dX6_find_15 : decode cX6_find 15 = .ok (.aload_n 0, 1) := by decide +kernel
theorem dX6_find_16 : decode cX6_find 16 = .ok (.aload_n 1, 1) := by decide +kernel
theorem dX6_find_17 : decode cX6_find 17 = .ok (.invokevirtual 32, 3) := by decide +kernel
theorem dX6_find_20 : decode cX6_find 20 = .ok (.aload_n 0, 1) := by decide +kernel
theorem dX6_find_21 : decode cX6_find 21 = .ok (.aload_n 1, 1) := by decide +kernel
theorem dX6_find_22 : decode cX6_find 22 = .ok (.iconst 2, 1) := by decide +kernel
theorem dX6_find_23 : decode cX6_find 23 = .ok (.invokevirtual 36, 3) := by decide +kernel
theorem dX6_find_26 : decode cX6_find 26 = .ok (.return_, 1) := by decide +kernel
theorem dX6_order_0 : decode cX6_order 0 = .ok (.iconst 0, 1) := by decide +kernel
theorem dX6_order_1 : decode cX6_order 1 = .ok (.istore_n 2, 1) := by decide +kernel
theorem dX6_order_2 : decode cX6_order 2 = .ok (.iload_n 2, 1) := by decide +kernel
theorem dX6_order_3 : decode cX6_order 3 = .ok (.iconst 5, 1) := by decide +kernel
theorem dX6_order_4 : decode cX6_order 4 = .ok (.if_icmp .ge 16, 3) := by decide +kernel
theorem dX6_order_7 : decode cX6_order 7 = .ok (.aload_n 0, 1) := by decide +kernel
theorem dX6_order_8 : decode cX6_order 8 = .ok (.getfield 15, 3) := by decide +kernel
theorem dX6_order_11 : decode cX6_order 11 = .ok (.iload_n 2, 1) := by decide +kernel
theorem dX6_order_12 : decode cX6_order 12 = .ok (.iload_n 2, 1) := by decide +kernel
theorem dX6_order_13 : decode cX6_order 13 = .ok (.iastore, 1) := by decide +kernel
theorem dX6_order_14 : decode cX6_order 14 = .ok (.iinc 2 1, 3) := by decide +kernel
theorem dX6_order_17 : decode cX6_order 17 = .ok (.goto (-15), 3) := by decide +kernel
theorem dX6_order_20 : decode cX6_order 20 = .ok (.iconst 0, 1) := by decide +kernel
theorem dX6_order_21 : decode cX6_order 21 = .ok (.istore_n 2, 1) := by decide +kernel
theorem dX6_order_22 : decode cX6_order 22 = .ok (.iload_n 2, 1) := by decide +kernel
theorem dX6_order_23 : decode cX6_order 23 = .ok (.aload_n 1, 1) := by decide +kernel
theorem dX6_order_24 : decode cX6_order 24 = .ok (.getfield 40, 3) := by decide +kernel
theorem dX6_order_27 : decode cX6_order 27 = .ok (.if_icmp .ge 124, 3) := by decide +kernel
theorem dX6_order_30 : decode cX6_order 30 = .ok (.aload_n 1, 1) := by decide +kernel
theorem dX6_order_31 : decode cX6_order 31 = .ok (.getfield 45, 3) := by decide +kernel
theorem dX6_order_34 : decode cX6_order 34 = .ok (.iload_n 2, 1) := by decide +kernel
theorem dX6_order_35 : decode cX6_order 35 = .ok (.iaload, 1) := by decide +kernel
theorem dX6_order_36 : decode cX6_order 36 = .ok (.istore_n 3, 1) := by decide +kernel
theorem dX6_order_37 : decode cX6_order 37 = .ok (.aload_n 1, 1) := by decide +kernel
theorem dX6_order_38 : decode cX6_order 38 = .ok (.getfield 48, 3) := by decide +kernel
theorem dX6_order_41 : decode cX6_order 41 = .ok (.iload_n 2, 1) := by decide +kernel
theorem dX6_order_42 : decode cX6_order 42 = .ok (.iaload, 1) := by decide +kernel
theorem dX6_order_43 : decode cX6_order 43 = .ok (.istore 4, 2) := by decide +kernel
theorem dX6_order_45 : decode cX6_order 45 = .ok (.iload_n 3, 1) := by decide +kernel
theorem dX6_order_46 : decode cX6_order 46 = .ok (.iload 4, 2) := by decide +kernel
theorem dX6_order_48 : decode cX6_order 48 = .ok (.invokestatic 51, 3) := by decide +kernel
theorem dX6_order_51 : decode cX6_order 51 = .ok (.istore 5, 2) := by decide +kernel
theorem dX6_order_53 : decode cX6_order 53 = .ok (.aload_n 1, 1) := by decide +kernel
theorem dX6_order_54 : decode cX6_order 54 = .ok (.getfield 57, 3) := by decide +kernel
theorem dX6_order_57 : decode cX6_order 57 = .ok (.iload_n 2, 1) := by decide +kernel
theorem dX6_order_58 : decode cX6_order 58 = .ok (.iaload, 1) := by decide +kernel
theorem dX6_order_59 : decode cX6_order 59 = .ok (.ifCond .eq 9, 3) := by decide +kernel
theorem dX6_order_62 : decode cX6_order 62 = .ok (.iload 5, 2) := by decide +kernel
theorem dX6_order_64 : decode cX6_order 64 = .ok (.iconst 2, 1) := by decide +kernel
theorem dX6_order_65 : decode cX6_order 65 = .ok (.if_icmp .ge 13, 3) := by decide +kernel
theorem dX6_order_68 : decode cX6_order 68 = .ok (.aload_n 0, 1) := by decide +kernel
theorem dX6_order_69 : decode cX6_order 69 = .ok (.getfield 9, 3) := by decide +kernel
theorem dX6_order_72 : decode cX6_order 72 = .ok (.iload_n 2, 1) := by decide +kernel
theorem dX6_order_73 : decode cX6_order 73 = .ok (.iconst 0, 1) := by decide +kernel
theorem dX6_order_74 : decode cX6_order 74 = .ok (.iastore, 1) := by decide +kernel
theorem dX6_order_75 : decode cX6_order 75 = .ok (.goto 70, 3) := by decide +kernel
theorem dX6_order_78 : decode cX6_order 78 = .ok (.aload_n 1, 1) := by decide +kernel
theorem dX6_order_79 : decode cX6_order 79 = .ok (.getfield 57, 3) := by decide +kernel
theorem dX6_order_82 : decode cX6_order 82 = .ok (.iload_n 2, 1) := by decide +kernel
theorem dX6_order_83 : decode cX6_order 83 = .ok (.iaload, 1) := by decide +kernel
theorem dX6_order_84 : decode cX6_order 84 = .ok (.iconst 2, 1) := by decide +kernel
theorem dX6_order_85 : decode cX6_order 85 = .ok (.if_icmp .ne 16, 3) := by decide +kernel
theorem dX6_order_88 : decode cX6_order 88 = .ok (.iload 5, 2) := by decide +kernel
theorem dX6_order_90 : decode cX6_order 90 = .ok (.aload_n 1, 1) := by decide +kernel
theorem dX6_order_91 : decode cX6_order 91 = .ok (.getfield 60, 3) := by decide +kernel
theorem dX6_order_94 : decode cX6_order 94 = .ok (.iload_n 2, 1) := by decide +kernel
theorem dX6_order_95 : decode cX6_order 95 = .ok (.iaload, 1) := by decide +kernel
theorem dX6_order_96 : decode cX6_order 96 = .ok (.invokestatic 51, 3) := by decide +kernel
theorem dX6_order_99 : decode cX6_order 99 = .ok (.istore 5, 2) := by decide +kernel
theorem dX6_order_101 : decode cX6_order 101 = .ok (.aload_n 0, 1) := by decide +kernel
theorem dX6_order_102 : decode cX6_order 102 = .ok (.getfield 9, 3) := by decide +kernel
theorem dX6_order_105 : decode cX6_order 105 = .ok (.iload_n 2, 1) := by decide +kernel
theorem dX6_order_106 : decode cX6_order 106 = .ok (.iload 5, 2) := by decide +kernel
theorem dX6_order_108 : decode cX6_order 108 = .ok (.iastore, 1) := by decide +kernel
theorem dX6_order_109 : decode cX6_order 109 = .ok (.aload_n 0, 1) := by decide +kernel
theorem dX6_order_110 : decode cX6_order 110 = .ok (.getfield 15, 3) := by decide +kernel
theorem dX6_order_113 : decode cX6_order 113 = .ok (.iload_n 3, 1) := by decide +kernel
theorem dX6_order_114 : decode cX6_order 114 = .ok (.aload_n 0, 1) := by decide +kernel
theorem dX6_order_115 : decode cX6_order 115 = .ok (.getfield 15, 3) := by decide +kernel
theorem dX6_order_118 : decode cX6_order 118 = .ok (.iload_n 3, 1) := by decide +kernel
theorem dX6_order_119 : decode cX6_order 119 = .ok (.iaload, 1) := by decide +kernel
theorem dX6_order_120 : decode cX6_order 120 = .ok (.iload 5, 2) := by decide +kernel
theorem dX6_order_122 : decode cX6_order 122 = .ok (.invokestatic 51, 3) := by decide +kernel
theorem dX6_order_125 : decode cX6_order 125 = .ok (.iastore, 1) := by decide +kernel
theorem dX6_order_126 : decode cX6_order 126 = .ok (.aload_n 0, 1) := by decide +kernel
theorem dX6_order_127 : decode cX6_order 127 = .ok (.getfield 15, 3) := by decide +kernel
theorem dX6_order_130 : decode cX6_order 130 = .ok (.iload 4, 2) := by decide +kernel
theorem dX6_order_132 : decode cX6_order 132 = .ok (.aload_n 0, 1) := by decide +kernel
theorem dX6_order_133 : decode cX6_order 133 = .ok (.getfield 15, 3) := by decide +kernel
theorem dX6_order_136 : decode cX6_order 136 = .ok (.iload 4, 2) := by decide +kernel
theorem dX6_order_138 : decode cX6_order 138 = .ok (.iaload, 1) := by decide +kernel
theorem dX6_order_139 : decode cX6_order 139 = .ok (.iload 5, 2) := by decide +kernel
theorem dX6_order_141 : decode cX6_order 141 = .ok (.invokestatic 51, 3) := by decide +kernel
theorem dX6_order_144 : decode cX6_order 144 = .ok (.iastore, 1) := by decide +kernel
theorem dX6_order_145 : decode cX6_order 145 = .ok (.iinc 2 1, 3) := by decide +kernel
theorem dX6_order_148 : decode cX6_order 148 = .ok (.goto (-126), 3) := by decide +kernel
theorem dX6_order_151 : decode cX6_order 151 = .ok (.return_, 1) := by decide +kernel
theorem dX6_seek_0 : decode cX6_seek 0 = .ok (.iload_n 2, 1) := by decide +kernel
theorem dX6_seek_1 : decode cX6_seek 1 = .ok (.iconst 4, 1) := by decide +kernel
theorem dX6_seek_2 : decode cX6_seek 2 = .ok (.if_icmp .le 4, 3) := by decide +kernel
theorem dX6_seek_5 : decode cX6_seek 5 = .ok (.return_, 1) := by decide +kernel
theorem dX6_seek_6 : decode cX6_seek 6 = .ok (.iconst 0, 1) := by decide +kernel
theorem dX6_seek_7 : decode cX6_seek 7 = .ok (.istore_n 3, 1) := by decide +kernel
theorem dX6_seek_8 : decode cX6_seek 8 = .ok (.iload_n 3, 1) := by decide +kernel
theorem dX6_seek_9 : decode cX6_seek 9 = .ok (.bipush 20, 2) := by decide +kernel
theorem dX6_seek_11 : decode cX6_seek 11 = .ok (.if_icmp .gt 65, 3) := by decide +kernel
theorem dX6_seek_14 : decode cX6_seek 14 = .ok (.aload_n 0, 1) := by decide +kernel
theorem dX6_seek_15 : decode cX6_seek 15 = .ok (.getfield 28, 3) := by decide +kernel
theorem dX6_seek_18 : decode cX6_seek 18 = .ok (.ifCond .ne 58, 3) := by decide +kernel
theorem dX6_seek_21 : decode cX6_seek 21 = .ok (.aload_n 1, 1) := by decide +kernel
theorem dX6_seek_22 : decode cX6_seek 22 = .ok (.getfield 63, 3) := by decide +kernel
theorem dX6_seek_25 : decode cX6_seek 25 = .ok (.iload_n 2, 1) := by decide +kernel
theorem dX6_seek_26 : decode cX6_seek 26 = .ok (.iload_n 3, 1) := by decide +kernel
theorem dX6_seek_27 : decode cX6_seek 27 = .ok (.iastore, 1) := by decide +kernel
theorem dX6_seek_28 : decode cX6_seek 28 = .ok (.aload_n 0, 1) := by decide +kernel
theorem dX6_seek_29 : decode cX6_seek 29 = .ok (.aload_n 1, 1) := by decide +kernel
theorem dX6_seek_30 : decode cX6_seek 30 = .ok (.iload_n 2, 1) := by decide +kernel
theorem dX6_seek_31 : decode cX6_seek 31 = .ok (.invokevirtual 66, 3) := by decide +kernel
theorem dX6_seek_34 : decode cX6_seek 34 = .ok (.aload_n 0, 1) := by decide +kernel
theorem dX6_seek_35 : decode cX6_seek 35 = .ok (.aload_n 1, 1) := by decide +kernel
theorem dX6_seek_36 : decode cX6_seek 36 = .ok (.iload_n 2, 1) := by decide +kernel
theorem dX6_seek_37 : decode cX6_seek 37 = .ok (.invokevirtual 69, 3) := by decide +kernel
theorem dX6_seek_40 : decode cX6_seek 40 = .ok (.ifCond .ne 6, 3) := by decide +kernel
theorem dX6_seek_43 : decode cX6_seek 43 = .ok (.goto 27, 3) := by decide +kernel
theorem dX6_seek_46 : decode cX6_seek 46 = .ok (.iload_n 2, 1) := by decide +kernel
theorem dX6_seek_47 : decode cX6_seek 47 = .ok (.iconst 4, 1) := by decide +kernel
theorem dX6_seek_48 : decode cX6_seek 48 = .ok (.if_icmp .ge 14, 3) := by decide +kernel
theorem dX6_seek_51 : decode cX6_seek 51 = .ok (.aload_n 0, 1) := by decide +kernel
theorem dX6_seek_52 : decode cX6_seek 52 = .ok (.aload_n 1, 1) := by decide +kernel
theorem dX6_seek_53 : decode cX6_seek 53 = .ok (.iload_n 2, 1) := by decide +kernel
theorem dX6_seek_54 : decode cX6_seek 54 = .ok (.iconst 1, 1) := by decide +kernel
theorem dX6_seek_55 : decode cX6_seek 55 = .ok (.iadd, 1) := by decide +kernel
theorem dX6_seek_56 : decode cX6_seek 56 = .ok (.invokevirtual 36, 3) := by decide +kernel
theorem dX6_seek_59 : decode cX6_seek 59 = .ok (.goto 11, 3) := by decide +kernel
theorem dX6_seek_62 : decode cX6_seek 62 = .ok (.aload_n 0, 1) := by decide +kernel
theorem dX6_seek_63 : decode cX6_seek 63 = .ok (.aload_n 1, 1) := by decide +kernel
theorem dX6_seek_64 : decode cX6_seek 64 = .ok (.invokevirtual 73, 3) := by decide +kernel
theorem dX6_seek_67 : decode cX6_seek 67 = .ok (.invokevirtual 77, 3) := by decide +kernel
theorem dX6_seek_70 : decode cX6_seek 70 = .ok (.iinc 3 1, 3) := by decide +kernel
theorem dX6_seek_73 : decode cX6_seek 73 = .ok (.goto (-65), 3) := by decide +kernel
theorem dX6_seek_76 : decode cX6_seek 76 = .ok (.return_, 1) := by decide +kernel
theorem dX6_addFlows_0 : decode cX6_addFlows 0 = .ok (.iload_n 2, 1) := by decide +kernel
theorem dX6_addFlows_1 : decode cX6_addFlows 1 = .ok (.iconst 5, 1) := by decide +kernel
theorem dX6_addFlows_2 : decode cX6_addFlows 2 = .ok (.imul, 1) := by decide +kernel
theorem dX6_addFlows_3 : decode cX6_addFlows 3 = .ok (.istore_n 3, 1) := by decide +kernel
theorem dX6_addFlows_4 : decode cX6_addFlows 4 = .ok (.iconst 0, 1) := by decide +kernel
theorem dX6_addFlows_5 : decode cX6_addFlows 5 = .ok (.istore 4, 2) := by decide +kernel
theorem dX6_addFlows_7 : decode cX6_addFlows 7 = .ok (.iload 4, 2) := by decide +kernel
theorem dX6_addFlows_9 : decode cX6_addFlows 9 = .ok (.iconst 5, 1) := by decide +kernel
theorem dX6_addFlows_10 : decode cX6_addFlows 10 = .ok (.if_icmp .ge 38, 3) := by decide +kernel
theorem dX6_addFlows_13 : decode cX6_addFlows 13 = .ok (.aload_n 0, 1) := by decide +kernel
theorem dX6_addFlows_14 : decode cX6_addFlows 14 = .ok (.getfield 18, 3) := by decide +kernel
theorem dX6_addFlows_17 : decode cX6_addFlows 17 = .ok (.iload_n 3, 1) := by decide +kernel
theorem dX6_addFlows_18 : decode cX6_addFlows 18 = .ok (.iload 4, 2) := by decide +kernel
theorem dX6_addFlows_20 : decode cX6_addFlows 20 = .ok (.iadd, 1) := by decide +kernel
theorem dX6_addFlows_21 : decode cX6_addFlows 21 = .ok (.iload_n 2, 1) := by decide +kernel
theorem dX6_addFlows_22 : decode cX6_addFlows 22 = .ok (.iconst 2, 1) := by decide +kernel
theorem dX6_addFlows_23 : decode cX6_addFlows 23 = .ok (.if_icmp .ne 7, 3) := by decide +kernel
theorem dX6_addFlows_26 : decode cX6_addFlows 26 = .ok (.iconst 0, 1) := by decide +kernel
theorem dX6_addFlows_27 : decode cX6_addFlows 27 = .ok (.goto 14, 3) := by decide +kernel
theorem dX6_addFlows_30 : decode cX6_addFlows 30 = .ok (.aload_n 0, 1) := by decide +kernel
theorem dX6_addFlows_31 : decode cX6_addFlows 31 = .ok (.getfield 18, 3) := by decide +kernel
theorem dX6_addFlows_34 : decode cX6_addFlows 34 = .ok (.iload_n 3, 1) := by decide +kernel
theorem dX6_addFlows_35 : decode cX6_addFlows 35 = .ok (.iconst 5, 1) := by decide +kernel
theorem dX6_addFlows_36 : decode cX6_addFlows 36 = .ok (.isub, 1) := by decide +kernel
theorem dX6_addFlows_37 : decode cX6_addFlows 37 = .ok (.iload 4, 2) := by decide +kernel
theorem dX6_addFlows_39 : decode cX6_addFlows 39 = .ok (.iadd, 1) := by decide +kernel
theorem dX6_addFlows_40 : decode cX6_addFlows 40 = .ok (.iaload, 1) := by decide +kernel
theorem dX6_addFlows_41 : decode cX6_addFlows 41 = .ok (.iastore, 1) := by decide +kernel
theorem dX6_addFlows_42 : decode cX6_addFlows 42 = .ok (.iinc 4 1, 3) := by decide +kernel
theorem dX6_addFlows_45 : decode cX6_addFlows 45 = .ok (.goto (-38), 3) := by decide +kernel
theorem dX6_addFlows_48 : decode cX6_addFlows 48 = .ok (.iconst 0, 1) := by decide +kernel
theorem dX6_addFlows_49 : decode cX6_addFlows 49 = .ok (.istore 4, 2) := by decide +kernel
theorem dX6_addFlows_51 : decode cX6_addFlows 51 = .ok (.iload 4, 2) := by decide +kernel
theorem dX6_addFlows_53 : decode cX6_addFlows 53 = .ok (.aload_n 1, 1) := by decide +kernel
theorem dX6_addFlows_54 : decode cX6_addFlows 54 = .ok (.getfield 40, 3) := by decide +kernel
theorem dX6_addFlows_57 : decode cX6_addFlows 57 = .ok (.if_icmp .ge 69, 3) := by decide +kernel
theorem dX6_addFlows_60 : decode cX6_addFlows 60 = .ok (.aload_n 0, 1) := by decide +kernel
theorem dX6_addFlows_61 : decode cX6_addFlows 61 = .ok (.getfield 9, 3) := by decide +kernel
theorem dX6_addFlows_64 : decode cX6_addFlows 64 = .ok (.iload 4, 2) := by decide +kernel
theorem dX6_addFlows_66 : decode cX6_addFlows 66 = .ok (.iaload, 1) := by decide +kernel
theorem dX6_addFlows_67 : decode cX6_addFlows 67 = .ok (.iload_n 2, 1) := by decide +kernel
theorem dX6_addFlows_68 : decode cX6_addFlows 68 = .ok (.if_icmp .eq 6, 3) := by decide +kernel
theorem dX6_addFlows_71 : decode cX6_addFlows 71 = .ok (.goto 49, 3) := by decide +kernel
theorem dX6_addFlows_74 : decode cX6_addFlows 74 = .ok (.aload_n 1, 1) := by decide +kernel
theorem dX6_addFlows_75 : decode cX6_addFlows 75 = .ok (.iload 4, 2) := by decide +kernel
theorem dX6_addFlows_77 : decode cX6_addFlows 77 = .ok (.invokevirtual 81, 3) := by decide +kernel
theorem dX6_addFlows_80 : decode cX6_addFlows 80 = .ok (.istore 5, 2) := by decide +kernel
theorem dX6_addFlows_82 : decode cX6_addFlows 82 = .ok (.aload_n 0, 1) := by decide +kernel
theorem dX6_addFlows_83 : decode cX6_addFlows 83 = .ok (.getfield 18, 3) := by decide +kernel
theorem dX6_addFlows_86 : decode cX6_addFlows 86 = .ok (.iload_n 3, 1) := by decide +kernel
theorem dX6_addFlows_87 : decode cX6_addFlows 87 = .ok (.aload_n 1, 1) := by decide +kernel
theorem dX6_addFlows_88 : decode cX6_addFlows 88 = .ok (.getfield 45, 3) := by decide +kernel
theorem dX6_addFlows_91 : decode cX6_addFlows 91 = .ok (.iload 4, 2) := by decide +kernel
theorem dX6_addFlows_93 : decode cX6_addFlows 93 = .ok (.iaload, 1) := by decide +kernel
theorem dX6_addFlows_94 : decode cX6_addFlows 94 = .ok (.iadd, 1) := by decide +kernel
theorem dX6_addFlows_95 : decode cX6_addFlows 95 = .ok (.dup2, 1) := by decide +kernel
theorem dX6_addFlows_96 : decode cX6_addFlows 96 = .ok (.iaload, 1) := by decide +kernel
theorem dX6_addFlows_97 : decode cX6_addFlows 97 = .ok (.iload 5, 2) := by decide +kernel
theorem dX6_addFlows_99 : decode cX6_addFlows 99 = .ok (.isub, 1) := by decide +kernel
theorem dX6_addFlows_100 : decode cX6_addFlows 100 = .ok (.iastore, 1) := by decide +kernel
theorem dX6_addFlows_101 : decode cX6_addFlows 101 = .ok (.aload_n 0, 1) := by decide +kernel
theorem dX6_addFlows_102 : decode cX6_addFlows 102 = .ok (.getfield 18, 3) := by decide +kernel
theorem dX6_addFlows_105 : decode cX6_addFlows 105 = .ok (.iload_n 3, 1) := by decide +kernel
theorem dX6_addFlows_106 : decode cX6_addFlows 106 = .ok (.aload_n 1, 1) := by decide +kernel
theorem dX6_addFlows_107 : decode cX6_addFlows 107 = .ok (.getfield 48, 3) := by decide +kernel
theorem dX6_addFlows_110 : decode cX6_addFlows 110 = .ok (.iload 4, 2) := by decide +kernel
theorem dX6_addFlows_112 : decode cX6_addFlows 112 = .ok (.iaload, 1) := by decide +kernel
theorem dX6_addFlows_113 : decode cX6_addFlows 113 = .ok (.iadd, 1) := by decide +kernel
theorem dX6_addFlows_114 : decode cX6_addFlows 114 = .ok (.dup2, 1) := by decide +kernel
theorem dX6_addFlows_115 : decode cX6_addFlows 115 = .ok (.iaload, 1) := by decide +kernel
theorem dX6_addFlows_116 : decode cX6_addFlows 116 = .ok (.iload 5, 2) := by decide +kernel
theorem dX6_addFlows_118 : decode cX6_addFlows 118 = .ok (.iadd, 1) := by decide +kernel
theorem dX6_addFlows_119 : decode cX6_addFlows 119 = .ok (.iastore, 1) := by decide +kernel
theorem dX6_addFlows_120 : decode cX6_addFlows 120 = .ok (.iinc 4 1, 3) := by decide +kernel
theorem dX6_addFlows_123 : decode cX6_addFlows 123 = .ok (.goto (-72), 3) := by decide +kernel
theorem dX6_addFlows_126 : decode cX6_addFlows 126 = .ok (.return_, 1) := by decide +kernel
theorem dX6_stay_0 : decode cX6_stay 0 = .ok (.iconst 2, 1) := by decide +kernel
theorem dX6_stay_1 : decode cX6_stay 1 = .ok (.istore_n 3, 1) := by decide +kernel
theorem dX6_stay_2 : decode cX6_stay 2 = .ok (.iload_n 3, 1) := by decide +kernel
theorem dX6_stay_3 : decode cX6_stay 3 = .ok (.iload_n 2, 1) := by decide +kernel
theorem dX6_stay_4 : decode cX6_stay 4 = .ok (.if_icmp .gt 45, 3) := by decide +kernel
theorem dX6_stay_7 : decode cX6_stay 7 = .ok (.aload_n 0, 1) := by decide +kernel
theorem dX6_stay_8 : decode cX6_stay 8 = .ok (.getfield 15, 3) := by decide +kernel
theorem dX6_stay_11 : decode cX6_stay 11 = .ok (.iload_n 3, 1) := by decide +kernel
theorem dX6_stay_12 : decode cX6_stay 12 = .ok (.iaload, 1) := by decide +kernel
theorem dX6_stay_13 : decode cX6_stay 13 = .ok (.iload_n 2, 1) := by decide +kernel
theorem dX6_stay_14 : decode cX6_stay 14 = .ok (.if_icmp .ne 29, 3) := by decide +kernel
theorem dX6_stay_17 : decode cX6_stay 17 = .ok (.aload_n 1, 1) := by decide +kernel
theorem dX6_stay_18 : decode cX6_stay 18 = .ok (.iload_n 3, 1) := by decide +kernel
theorem dX6_stay_19 : decode cX6_stay 19 = .ok (.aload_n 0, 1) := by decide +kernel
theorem dX6_stay_20 : decode cX6_stay 20 = .ok (.getfield 18, 3) := by decide +kernel
theorem dX6_stay_23 : decode cX6_stay 23 = .ok (.iload_n 2, 1) := by decide +kernel
theorem dX6_stay_24 : decode cX6_stay 24 = .ok (.iconst 5, 1) := by decide +kernel
theorem dX6_stay_25 : decode cX6_stay 25 = .ok (.imul, 1) := by decide +kernel
theorem dX6_stay_26 : decode cX6_stay 26 = .ok (.iload_n 3, 1) := by decide +kernel
theorem dX6_stay_27 : decode cX6_stay 27 = .ok (.iadd, 1) := by decide +kernel
theorem dX6_stay_28 : decode cX6_stay 28 = .ok (.iaload, 1) := by decide +kernel
theorem dX6_stay_29 : decode cX6_stay 29 = .ok (.invokevirtual 85, 3) := by decide +kernel
theorem dX6_stay_32 : decode cX6_stay 32 = .ok (.aload_n 1, 1) := by decide +kernel
theorem dX6_stay_33 : decode cX6_stay 33 = .ok (.getfield 63, 3) := by decide +kernel
theorem dX6_stay_36 : decode cX6_stay 36 = .ok (.iload_n 3, 1) := by decide +kernel
theorem dX6_stay_37 : decode cX6_stay 37 = .ok (.iaload, 1) := by decide +kernel
theorem dX6_stay_38 : decode cX6_stay 38 = .ok (.if_icmp .eq 5, 3) := by decide +kernel
theorem dX6_stay_41 : decode cX6_stay 41 = .ok (.iconst 0, 1) := by decide +kernel
theorem dX6_stay_42 : decode cX6_stay 42 = .ok (.ireturn, 1) := by decide +kernel
theorem dX6_stay_43 : decode cX6_stay 43 = .ok (.iinc 3 1, 3) := by decide +kernel
theorem dX6_stay_46 : decode cX6_stay 46 = .ok (.goto (-44), 3) := by decide +kernel
theorem dX6_stay_49 : decode cX6_stay 49 = .ok (.iconst 1, 1) := by decide +kernel
theorem dX6_stay_50 : decode cX6_stay 50 = .ok (.ireturn, 1) := by decide +kernel
theorem dX6_note_0 : decode cX6_note 0 = .ok (.aload_n 0, 1) := by decide +kernel
theorem dX6_note_1 : decode cX6_note 1 = .ok (.getfield 25, 3) := by decide +kernel
theorem dX6_note_4 : decode cX6_note 4 = .ok (.aload_n 0, 1) := by decide +kernel
theorem dX6_note_5 : decode cX6_note 5 = .ok (.getfield 21, 3) := by decide +kernel
theorem dX6_note_8 : decode cX6_note 8 = .ok (.if_icmp .ne 13, 3) := by decide +kernel
theorem dX6_note_11 : decode cX6_note 11 = .ok (.aload_n 0, 1) := by decide +kernel
theorem dX6_note_12 : decode cX6_note 12 = .ok (.iconst 1, 1) := by decide +kernel
theorem dX6_note_13 : decode cX6_note 13 = .ok (.putfield 28, 3) := by decide +kernel
theorem dX6_note_16 : decode cX6_note 16 = .ok (.aload_n 0, 1) := by decide +kernel
theorem dX6_note_17 : decode cX6_note 17 = .ok (.iload_n 1, 1) := by decide +kernel
theorem dX6_note_18 : decode cX6_note 18 = .ok (.putfield 88, 3) := by decide +kernel
theorem dX6_note_21 : decode cX6_note 21 = .ok (.aload_n 0, 1) := by decide +kernel
theorem dX6_note_22 : decode cX6_note 22 = .ok (.dup, 1) := by decide +kernel
theorem dX6_note_23 : decode cX6_note 23 = .ok (.getfield 25, 3) := by decide +kernel
theorem dX6_note_26 : decode cX6_note 26 = .ok (.iconst 1, 1) := by decide +kernel
theorem dX6_note_27 : decode cX6_note 27 = .ok (.iadd, 1) := by decide +kernel
theorem dX6_note_28 : decode cX6_note 28 = .ok (.putfield 25, 3) := by decide +kernel
theorem dX6_note_31 : decode cX6_note 31 = .ok (.return_, 1) := by decide +kernel
theorem dX7_init_0 : decode cX7_init 0 = .ok (.aload_n 0, 1) := by decide +kernel
theorem dX7_init_1 : decode cX7_init 1 = .ok (.invokespecial 3, 3) := by decide +kernel
theorem dX7_init_4 : decode cX7_init 4 = .ok (.aload_n 0, 1) := by decide +kernel
theorem dX7_init_5 : decode cX7_init 5 = .ok (.iconst 4, 1) := by decide +kernel
theorem dX7_init_6 : decode cX7_init 6 = .ok (.newarray .int, 2) := by decide +kernel
theorem dX7_init_8 : decode cX7_init 8 = .ok (.putfield 9, 3) := by decide +kernel
theorem dX7_init_11 : decode cX7_init 11 = .ok (.aload_n 0, 1) := by decide +kernel
theorem dX7_init_12 : decode cX7_init 12 = .ok (.iconst 4, 1) := by decide +kernel
theorem dX7_init_13 : decode cX7_init 13 = .ok (.newarray .int, 2) := by decide +kernel
theorem dX7_init_15 : decode cX7_init 15 = .ok (.putfield 15, 3) := by decide +kernel
theorem dX7_init_18 : decode cX7_init 18 = .ok (.aload_n 0, 1) := by decide +kernel
theorem dX7_init_19 : decode cX7_init 19 = .ok (.new 18, 3) := by decide +kernel
theorem dX7_init_22 : decode cX7_init 22 = .ok (.dup, 1) := by decide +kernel
theorem dX7_init_23 : decode cX7_init 23 = .ok (.invokespecial 20, 3) := by decide +kernel
theorem dX7_init_26 : decode cX7_init 26 = .ok (.putfield 21, 3) := by decide +kernel
theorem dX7_init_29 : decode cX7_init 29 = .ok (.aload_n 0, 1) := by decide +kernel
theorem dX7_init_30 : decode cX7_init 30 = .ok (.new 25, 3) := by decide +kernel
theorem dX7_init_33 : decode cX7_init 33 = .ok (.dup, 1) := by decide +kernel
theorem dX7_init_34 : decode cX7_init 34 = .ok (.invokespecial 27, 3) := by decide +kernel
theorem dX7_init_37 : decode cX7_init 37 = .ok (.putfield 28, 3) := by decide +kernel
theorem dX7_init_40 : decode cX7_init 40 = .ok (.aload_n 0, 1) := by decide +kernel
theorem dX7_init_41 : decode cX7_init 41 = .ok (.bipush 32, 2) := by decide +kernel
theorem dX7_init_43 : decode cX7_init 43 = .ok (.newarray .int, 2) := by decide +kernel
theorem dX7_init_45 : decode cX7_init 45 = .ok (.putfield 32, 3) := by decide +kernel
theorem dX7_init_48 : decode cX7_init 48 = .ok (.return_, 1) := by decide +kernel
theorem dX7_holding_0 : decode cX7_holding 0 = .ok (.aload_n 1, 1) := by decide +kernel
theorem dX7_holding_1 : decode cX7_holding 1 = .ok (.getfield 35, 3) := by decide +kernel
theorem dX7_holding_4 : decode cX7_holding 4 = .ok (.getfield 39, 3) := by decide +kernel
theorem dX7_holding_7 : decode cX7_holding 7 = .ok (.ifCond .ne 5, 3) := by decide +kernel
theorem dX7_holding_10 : decode cX7_holding 10 = .ok (.iconst 0, 1) := by decide +kernel
theorem dX7_holding_11 : decode cX7_holding 11 = .ok (.ireturn, 1) := by decide +kernel
theorem dX7_holding_12 : decode cX7_holding 12 = .ok (.aload_n 0, 1) := by decide +kernel
theorem dX7_holding_13 : decode cX7_holding 13 = .ok (.getfield 21, 3) := by decide +kernel
theorem dX7_holding_16 : decode cX7_holding 16 = .ok (.aload_n 1, 1) := by decide +kernel
theorem dX7_holding_17 : decode cX7_holding 17 = .ok (.iload_n 2, 1) := by decide +kernel
theorem dX7_holding_18 : decode cX7_holding 18 = .ok (.aload_n 1, 1) := by decide +kernel
theorem dX7_holding_19 : decode cX7_holding 19 = .ok (.getfield 45, 3) := by decide +kernel
theorem dX7_holding_22 : decode cX7_holding 22 = .ok (.invokevirtual 48, 3) := by decide +kernel
theorem dX7_holding_25 : decode cX7_holding 25 = .ok (.aload_n 0, 1) := by decide +kernel
theorem dX7_holding_26 : decode cX7_holding 26 = .ok (.getfield 21, 3) := by decide +kernel
theorem dX7_holding_29 : decode cX7_holding 29 = .ok (.aload_n 1, 1) := by decide +kernel
theorem dX7_holding_30 : decode cX7_holding 30 = .ok (.getfield 52, 3) := by decide +kernel
theorem dX7_holding_33 : decode cX7_holding 33 = .ok (.invokevirtual 55, 3) := by decide +kernel
theorem dX7_holding_36 : decode cX7_holding 36 = .ok (.iconst 0, 1) := by decide +kernel
theorem dX7_holding_37 : decode cX7_holding 37 = .ok (.istore_n 3, 1) := by decide +kernel
theorem dX7_holding_38 : decode cX7_holding 38 = .ok (.iconst 0, 1) := by decide +kernel
theorem dX7_holding_39 : decode cX7_holding 39 = .ok (.istore 4, 2) := by decide +kernel
theorem dX7_holding_41 : decode cX7_holding 41 = .ok (.iload 4, 2) := by decide +kernel
theorem dX7_holding_43 : decode cX7_holding 43 = .ok (.aload_n 1, 1) := by decide +kernel
theorem dX7_holding_44 : decode cX7_holding 44 = .ok (.getfield 35, 3) := by decide +kernel
theorem dX7_holding_47 : decode cX7_holding 47 = .ok (.getfield 39, 3) := by decide +kernel
theorem dX7_holding_50 : decode cX7_holding 50 = .ok (.if_icmp .ge 29, 3) := by decide +kernel
theorem dX7_holding_53 : decode cX7_holding 53 = .ok (.aload_n 0, 1) := by decide +kernel
theorem dX7_holding_54 : decode cX7_holding 54 = .ok (.aload_n 1, 1) := by decide +kernel
theorem dX7_holding_55 : decode cX7_holding 55 = .ok (.getfield 35, 3) := by decide +kernel
theorem dX7_holding_58 : decode cX7_holding 58 = .ok (.iload 4, 2) := by decide +kernel
theorem dX7_holding_60 : decode cX7_holding 60 = .ok (.invokevirtual 59, 3) := by decide +kernel
theorem dX7_holding_63 : decode cX7_holding 63 = .ok (.ifCond .eq 10, 3) := by decide +kernel
theorem dX7_holding_66 : decode cX7_holding 66 = .ok (.iload_n 3, 1) := by decide +kernel
theorem dX7_holding_67 : decode cX7_holding 67 = .ok (.iconst 1, 1) := by decide +kernel
theorem dX7_holding_68 : decode cX7_holding 68 = .ok (.iload 4, 2) := by decide +kernel
theorem dX7_holding_70 : decode cX7_holding 70 = .ok (.ishl, 1) := by decide +kernel
theorem dX7_holding_71 : decode cX7_holding 71 = .ok (.ior, 1) := by decide +kernel
theorem dX7_holding_72 : decode cX7_holding 72 = .ok (.istore_n 3, 1) := by decide +kernel
theorem dX7_holding_73 : decode cX7_holding 73 = .ok (.iinc 4 1, 3) := by decide +kernel
theorem dX7_holding_76 : decode cX7_holding 76 = .ok (.goto (-35), 3) := by decide +kernel
theorem dX7_holding_79 : decode cX7_holding 79 = .ok (.iload_n 3, 1) := by decide +kernel
theorem dX7_holding_80 : decode cX7_holding 80 = .ok (.ireturn, 1) := by decide +kernel
theorem dX7_missing_0 : decode cX7_missing 0 = .ok (.iconst 0, 1) := by decide +kernel
theorem dX7_missing_1 : decode cX7_missing 1 = .ok (.istore_n 2, 1) := by decide +kernel
theorem dX7_missing_2 : decode cX7_missing 2 = .ok (.iconst 0, 1) := by decide +kernel
theorem dX7_missing_3 : decode cX7_missing 3 = .ok (.istore_n 3, 1) := by decide +kernel
theorem dX7_missing_4 : decode cX7_missing 4 = .ok (.iload_n 3, 1) := by decide +kernel
theorem dX7_missing_5 : decode cX7_missing 5 = .ok (.bipush 9, 2) := by decide +kernel
theorem dX7_missing_7 : decode cX7_missing 7 = .ok (.if_icmp .ge 39, 3) := by decide +kernel
theorem dX7_missing_10 : decode cX7_missing 10 = .ok (.iload_n 2, 1) := by decide +kernel
theorem dX7_missing_11 : decode cX7_missing 11 = .ok (.aload_n 1, 1) := by decide +kernel
theorem dX7_missing_12 : decode cX7_missing 12 = .ok (.getfield 35, 3) := by decide +kernel
theorem dX7_missing_15 : decode cX7_missing 15 = .ok (.invokevirtual 63, 3) := by decide +kernel
theorem dX7_missing_18 : decode cX7_missing 18 = .ok (.if_icmp .eq 28, 3) := by decide +kernel
theorem dX7_missing_21 : decode cX7_missing 21 = .ok (.iload_n 2, 1) := by decide +kernel
theorem dX7_missing_22 : decode cX7_missing 22 = .ok (.aload_n 1, 1) := by decide +kernel
theorem dX7_missing_23 : decode cX7_missing 23 = .ok (.getfield 35, 3) := by decide +kernel
theorem dX7_missing_26 : decode cX7_missing 26 = .ok (.invokevirtual 63, 3) := by decide +kernel
theorem dX7_missing_29 : decode cX7_missing 29 = .ok (.aload_n 0, 1) := by decide +kernel
theorem dX7_missing_30 : decode cX7_missing 30 = .ok (.aload_n 1, 1) := by decide +kernel
theorem dX7_missing_31 : decode cX7_missing 31 = .ok (.iload_n 3, 1) := by decide +kernel
theorem dX7_missing_32 : decode cX7_missing 32 = .ok (.invokevirtual 67, 3) := by decide +kernel
theorem dX7_missing_35 : decode cX7_missing 35 = .ok (.iconst (-1), 1) := by decide +kernel
theorem dX7_missing_36 : decode cX7_missing 36 = .ok (.ixor, 1) := by decide +kernel
theorem dX7_missing_37 : decode cX7_missing 37 = .ok (.iand, 1) := by decide +kernel
theorem dX7_missing_38 : decode cX7_missing 38 = .ok (.ior, 1) := by decide +kernel
theorem dX7_missing_39 : decode cX7_missing 39 = .ok (.istore_n 2, 1) := by decide +kernel
theorem dX7_missing_40 : decode cX7_missing 40 = .ok (.iinc 3 1, 3) := by decide +kernel
theorem dX7_missing_43 : decode cX7_missing 43 = .ok (.goto (-39), 3) := by decide +kernel
theorem dX7_missing_46 : decode cX7_missing 46 = .ok (.iload_n 2, 1) := by decide +kernel
theorem dX7_missing_47 : decode cX7_missing 47 = .ok (.ireturn, 1) := by decide +kernel
theorem dX7_allMet_0 : decode cX7_allMet 0 = .ok (.iconst 0, 1) := by decide +kernel
theorem dX7_allMet_1 : decode cX7_allMet 1 = .ok (.istore_n 2, 1) := by decide +kernel
theorem dX7_allMet_2 : decode cX7_allMet 2 = .ok (.iload_n 2, 1) := by decide +kernel
theorem dX7_allMet_3 : decode cX7_allMet 3 = .ok (.bipush 9, 2) := by decide +kernel
theorem dX7_allMet_5 : decode cX7_allMet 5 = .ok (.if_icmp .ge 27, 3) := by decide +kernel
theorem dX7_allMet_8 : decode cX7_allMet 8 = .ok (.aload_n 0, 1) := by decide +kernel
theorem dX7_allMet_9 : decode cX7_allMet 9 = .ok (.aload_n 1, 1) := by decide +kernel
theorem dX7_allMet_10 : decode cX7_allMet 10 = .ok (.iload_n 2, 1) := by decide +kernel
theorem dX7_allMet_11 : decode cX7_allMet 11 = .ok (.invokevirtual 67, 3) := by decide +kernel
theorem dX7_allMet_14 : decode cX7_allMet 14 = .ok (.aload_n 1, 1) := by decide +kernel
theorem dX7_allMet_15 : decode cX7_allMet 15 = .ok (.getfield 35, 3) := by decide +kernel
theorem dX7_allMet_18 : decode cX7_allMet 18 = .ok (.invokevirtual 63, 3) := by decide +kernel
theorem dX7_allMet_21 : decode cX7_allMet 21 = .ok (.if_icmp .eq 5, 3) := by decide +kernel
theorem dX7_allMet_24 : decode cX7_allMet 24 = .ok (.iconst 0, 1) := by decide +kernel
theorem dX7_allMet_25 : decode cX7_allMet 25 = .ok (.ireturn, 1) := by decide +kernel
theorem dX7_allMet_26 : decode cX7_allMet 26 = .ok (.iinc 2 1, 3) := by decide +kernel
theorem dX7_allMet_29 : decode cX7_allMet 29 = .ok (.goto (-27), 3) := by decide +kernel
theorem dX7_allMet_32 : decode cX7_allMet 32 = .ok (.iconst 1, 1) := by decide +kernel
theorem dX7_allMet_33 : decode cX7_allMet 33 = .ok (.ireturn, 1) := by decide +kernel
theorem dX7_firstMiss_0 : decode cX7_firstMiss 0 = .ok (.iconst 0, 1) := by decide +kernel
theorem dX7_firstMiss_1 : decode cX7_firstMiss 1 = .ok (.istore_n 3, 1) := by decide +kernel
theorem dX7_firstMiss_2 : decode cX7_firstMiss 2 = .ok (.iload_n 3, 1) := by decide +kernel
theorem dX7_firstMiss_3 : decode cX7_firstMiss 3 = .ok (.bipush 9, 2) := by decide +kernel
theorem dX7_firstMiss_5 : decode cX7_firstMiss 5 = .ok (.if_icmp .ge 24, 3) := by decide +kernel
theorem dX7_firstMiss_8 : decode cX7_firstMiss 8 = .ok (.aload_n 0, 1) := by decide +kernel
theorem dX7_firstMiss_9 : decode cX7_firstMiss 9 = .ok (.aload_n 1, 1) := by decide +kernel
theorem dX7_firstMiss_10 : decode cX7_firstMiss 10 = .ok (.iload_n 3, 1) := by decide +kernel
theorem dX7_firstMiss_11 : decode cX7_firstMiss 11 = .ok (.invokevirtual 67, 3) := by decide +kernel
theorem dX7_firstMiss_14 : decode cX7_firstMiss 14 = .ok (.iload_n 2, 1) := by decide +kernel
theorem dX7_firstMiss_15 : decode cX7_firstMiss 15 = .ok (.ishr, 1) := by decide +kernel
theorem dX7_firstMiss_16 : decode cX7_firstMiss 16 = .ok (.iconst 1, 1) := by decide +kernel
theorem dX7_firstMiss_17 : decode cX7_firstMiss 17 = .ok (.iand, 1) := by decide +kernel
theorem dX7_firstMiss_18 : decode cX7_firstMiss 18 = .ok (.ifCond .ne 5, 3) := by decide +kernel
theorem dX7_firstMiss_21 : decode cX7_firstMiss 21 = .ok (.iload_n 3, 1) := by decide +kernel
theorem dX7_firstMiss_22 : decode cX7_firstMiss 22 = .ok (.ireturn, 1) := by decide +kernel
theorem dX7_firstMiss_23 : decode cX7_firstMiss 23 = .ok (.iinc 3 1, 3) := by decide +kernel
theorem dX7_firstMiss_26 : decode cX7_firstMiss 26 = .ok (.goto (-24), 3) := by decide +kernel
theorem dX7_firstMiss_29 : decode cX7_firstMiss 29 = .ok (.iconst (-1), 1) := by decide +kernel
theorem dX7_firstMiss_30 : decode cX7_firstMiss 30 = .ok (.ireturn, 1) := by decide +kernel
theorem dX7_isTrue_0 : decode cX7_isTrue 0 = .ok (.iconst 0, 1) := by decide +kernel
theorem dX7_isTrue_1 : decode cX7_isTrue 1 = .ok (.istore_n 3, 1) := by decide +kernel
theorem dX7_isTrue_2 : decode cX7_isTrue 2 = .ok (.aload_n 1, 1) := by decide +kernel
theorem dX7_isTrue_3 : decode cX7_isTrue 3 = .ok (.getfield 71, 3) := by decide +kernel
theorem dX7_isTrue_6 : decode cX7_isTrue 6 = .ok (.iload_n 2, 1) := by decide +kernel
theorem dX7_isTrue_7 : decode cX7_isTrue 7 = .ok (.iaload, 1) := by decide +kernel
theorem dX7_isTrue_8 : decode cX7_isTrue 8 = .ok (.istore 4, 2) := by decide +kernel
theorem dX7_isTrue_10 : decode cX7_isTrue 10 = .ok (.iload 4, 2) := by decide +kernel
theorem dX7_isTrue_12 : decode cX7_isTrue 12 = .ok (.aload_n 1, 1) := by decide +kernel
theorem dX7_isTrue_13 : decode cX7_isTrue 13 = .ok (.getfield 71, 3) := by decide +kernel
theorem dX7_isTrue_16 : decode cX7_isTrue 16 = .ok (.iload_n 2, 1) := by decide +kernel
theorem dX7_isTrue_17 : decode cX7_isTrue 17 = .ok (.iconst 1, 1) := by decide +kernel
theorem dX7_isTrue_18 : decode cX7_isTrue 18 = .ok (.iadd, 1) := by decide +kernel
theorem dX7_isTrue_19 : decode cX7_isTrue 19 = .ok (.iaload, 1) := by decide +kernel
theorem dX7_isTrue_20 : decode cX7_isTrue 20 = .ok (.if_icmp .ge 131, 3) := by decide +kernel
theorem dX7_isTrue_23 : decode cX7_isTrue 23 = .ok (.aload_n 1, 1) := by decide +kernel
theorem dX7_isTrue_24 : decode cX7_isTrue 24 = .ok (.getfield 74, 3) := by decide +kernel
theorem dX7_isTrue_27 : decode cX7_isTrue 27 = .ok (.iload 4, 2) := by decide +kernel
theorem dX7_isTrue_29 : decode cX7_isTrue 29 = .ok (.iaload, 1) := by decide +kernel
theorem dX7_isTrue_30 : decode cX7_isTrue 30 = .ok (.sipush 1000, 3) := by decide +kernel
theorem dX7_isTrue_33 : decode cX7_isTrue 33 = .ok (.idiv, 1) := by decide +kernel
theorem dX7_isTrue_34 : decode cX7_isTrue 34 = .ok (.istore 5, 2) := by decide +kernel
theorem dX7_isTrue_36 : decode cX7_isTrue 36 = .ok (.iload 5, 2) := by decide +kernel
theorem dX7_isTrue_38 : decode cX7_isTrue 38 = .ok (.bipush 6, 2) := by decide +kernel
theorem dX7_isTrue_40 : decode cX7_isTrue 40 = .ok (.if_icmp .ge 38, 3) := by decide +kernel
theorem dX7_isTrue_43 : decode cX7_isTrue 43 = .ok (.iload_n 3, 1) := by decide +kernel
theorem dX7_isTrue_44 : decode cX7_isTrue 44 = .ok (.bipush 32, 2) := by decide +kernel
theorem dX7_isTrue_46 : decode cX7_isTrue 46 = .ok (.if_icmp .ge 32, 3) := by decide +kernel
theorem dX7_isTrue_49 : decode cX7_isTrue 49 = .ok (.aload_n 0, 1) := by decide +kernel
theorem dX7_isTrue_50 : decode cX7_isTrue 50 = .ok (.getfield 32, 3) := by decide +kernel
theorem dX7_isTrue_53 : decode cX7_isTrue 53 = .ok (.iload_n 3, 1) := by decide +kernel
theorem dX7_isTrue_54 : decode cX7_isTrue 54 = .ok (.aload_n 0, 1) := by decide +kernel
theorem dX7_isTrue_55 : decode cX7_isTrue 55 = .ok (.iload 5, 2) := by decide +kernel
theorem dX7_isTrue_57 : decode cX7_isTrue 57 = .ok (.aload_n 1, 1) := by decide +kernel
theorem dX7_isTrue_58 : decode cX7_isTrue 58 = .ok (.getfield 74, 3) := by decide +kernel
theorem dX7_isTrue_61 : decode cX7_isTrue 61 = .ok (.iload 4, 2) := by decide +kernel
theorem dX7_isTrue_63 : decode cX7_isTrue 63 = .ok (.iaload, 1) := by decide +kernel
theorem dX7_isTrue_64 : decode cX7_isTrue 64 = .ok (.sipush 1000, 3) := by decide +kernel
theorem dX7_isTrue_67 : decode cX7_isTrue 67 = .ok (.irem, 1) := by decide +kernel
theorem dX7_isTrue_68 : decode cX7_isTrue 68 = .ok (.invokevirtual 77, 3) := by decide +kernel
theorem dX7_isTrue_71 : decode cX7_isTrue 71 = .ok (.iastore, 1) := by decide +kernel
theorem dX7_isTrue_72 : decode cX7_isTrue 72 = .ok (.iinc 3 1, 3) := by decide +kernel
theorem dX7_isTrue_75 : decode cX7_isTrue 75 = .ok (.goto 70, 3) := by decide +kernel
theorem dX7_isTrue_78 : decode cX7_isTrue 78 = .ok (.iload 5, 2) := by decide +kernel
theorem dX7_isTrue_80 : decode cX7_isTrue 80 = .ok (.bipush 10, 2) := by decide +kernel
theorem dX7_isTrue_82 : decode cX7_isTrue 82 = .ok (.if_icmp .ne 28, 3) := by decide +kernel
theorem dX7_isTrue_85 : decode cX7_isTrue 85 = .ok (.iload_n 3, 1) := by decide +kernel
theorem dX7_isTrue_86 : decode cX7_isTrue 86 = .ok (.ifCond .le 24, 3) := by decide +kernel
theorem dX7_isTrue_89 : decode cX7_isTrue 89 = .ok (.aload_n 0, 1) := by decide +kernel
theorem dX7_isTrue_90 : decode cX7_isTrue 90 = .ok (.getfield 32, 3) := by decide +kernel
theorem dX7_isTrue_93 : decode cX7_isTrue 93 = .ok (.iload_n 3, 1) := by decide +kernel
theorem dX7_isTrue_94 : decode cX7_isTrue 94 = .ok (.iconst 1, 1) := by decide +kernel
theorem dX7_isTrue_95 : decode cX7_isTrue 95 = .ok (.isub, 1) := by decide +kernel
theorem dX7_isTrue_96 : decode cX7_isTrue 96 = .ok (.iconst 1, 1) := by decide +kernel
theorem dX7_isTrue_97 : decode cX7_isTrue 97 = .ok (.aload_n 0, 1) := by decide +kernel
theorem dX7_isTrue_98 : decode cX7_isTrue 98 = .ok (.getfield 32, 3) := by decide +kernel
theorem dX7_isTrue_101 : decode cX7_isTrue 101 = .ok (.iload_n 3, 1) := by decide +kernel
theorem dX7_isTrue_102 : decode cX7_isTrue 102 = .ok (.iconst 1, 1) := by decide +kernel
theorem dX7_isTrue_103 : decode cX7_isTrue 103 = .ok (.isub, 1) := by decide +kernel
theorem dX7_isTrue_104 : decode cX7_isTrue 104 = .ok (.iaload, 1) := by decide +kernel
