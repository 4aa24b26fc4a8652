theorem dX10_part_158 : decode cX10_part 158 = .ok (.iload 6, 2) := by decide +kernel
theorem dX10_part_160 : decode cX10_part 160 = .ok (.iconst 4, 1) := by decide +kernel
theorem dX10_part_161 : decode cX10_part 161 = .ok (.iadd, 1) := by decide +kernel
theorem dX10_part_162 : decode cX10_part 162 = .ok (.iconst 0, 1) := by decide +kernel
theorem dX10_part_163 : decode cX10_part 163 = .ok (.iastore, 1) := by decide +kernel
theorem dX10_part_164 : decode cX10_part 164 = .ok (.aload_n 0, 1) := by decide +kernel
theorem dX10_part_165 : decode cX10_part 165 = .ok (.getfield 17, 3) := by decide +kernel
theorem dX10_part_168 : decode cX10_part 168 = .ok (.iload 6, 2) := by decide +kernel
theorem dX10_part_170 : decode cX10_part 170 = .ok (.iconst 5, 1) := by decide +kernel
theorem dX10_part_171 : decode cX10_part 171 = .ok (.iadd, 1) := by decide +kernel
theorem dX10_part_172 : decode cX10_part 172 = .ok (.iload_n 1, 1) := by decide +kernel
theorem dX10_part_173 : decode cX10_part 173 = .ok (.invokestatic 143, 3) := by decide +kernel
theorem dX10_part_176 : decode cX10_part 176 = .ok (.ifCond .eq 11, 3) := by decide +kernel
theorem dX10_part_179 : decode cX10_part 179 = .ok (.iload 4, 2) := by decide +kernel
theorem dX10_part_181 : decode cX10_part 181 = .ok (.bipush 100, 2) := by decide +kernel
theorem dX10_part_183 : decode cX10_part 183 = .ok (.idiv, 1) := by decide +kernel
theorem dX10_part_184 : decode cX10_part 184 = .ok (.goto 5, 3) := by decide +kernel
theorem dX10_part_187 : decode cX10_part 187 = .ok (.bipush (-9), 2) := by decide +kernel
theorem dX10_part_189 : decode cX10_part 189 = .ok (.iastore, 1) := by decide +kernel
theorem dX10_part_190 : decode cX10_part 190 = .ok (.aload_n 0, 1) := by decide +kernel
theorem dX10_part_191 : decode cX10_part 191 = .ok (.getfield 17, 3) := by decide +kernel
theorem dX10_part_194 : decode cX10_part 194 = .ok (.iload 6, 2) := by decide +kernel
theorem dX10_part_196 : decode cX10_part 196 = .ok (.bipush 6, 2) := by decide +kernel
theorem dX10_part_198 : decode cX10_part 198 = .ok (.iadd, 1) := by decide +kernel
theorem dX10_part_199 : decode cX10_part 199 = .ok (.iload_n 1, 1) := by decide +kernel
theorem dX10_part_200 : decode cX10_part 200 = .ok (.invokestatic 143, 3) := by decide +kernel
theorem dX10_part_203 : decode cX10_part 203 = .ok (.ifCond .eq 14, 3) := by decide +kernel
theorem dX10_part_206 : decode cX10_part 206 = .ok (.iload 4, 2) := by decide +kernel
theorem dX10_part_208 : decode cX10_part 208 = .ok (.bipush 10, 2) := by decide +kernel
theorem dX10_part_210 : decode cX10_part 210 = .ok (.idiv, 1) := by decide +kernel
theorem dX10_part_211 : decode cX10_part 211 = .ok (.bipush 10, 2) := by decide +kernel
theorem dX10_part_213 : decode cX10_part 213 = .ok (.irem, 1) := by decide +kernel
theorem dX10_part_214 : decode cX10_part 214 = .ok (.goto 5, 3) := by decide +kernel
theorem dX10_part_217 : decode cX10_part 217 = .ok (.bipush (-9), 2) := by decide +kernel
theorem dX10_part_219 : decode cX10_part 219 = .ok (.iastore, 1) := by decide +kernel
theorem dX10_part_220 : decode cX10_part 220 = .ok (.aload_n 0, 1) := by decide +kernel
theorem dX10_part_221 : decode cX10_part 221 = .ok (.getfield 17, 3) := by decide +kernel
theorem dX10_part_224 : decode cX10_part 224 = .ok (.iload 6, 2) := by decide +kernel
theorem dX10_part_226 : decode cX10_part 226 = .ok (.bipush 7, 2) := by decide +kernel
theorem dX10_part_228 : decode cX10_part 228 = .ok (.iadd, 1) := by decide +kernel
theorem dX10_part_229 : decode cX10_part 229 = .ok (.iload_n 1, 1) := by decide +kernel
theorem dX10_part_230 : decode cX10_part 230 = .ok (.invokestatic 143, 3) := by decide +kernel
theorem dX10_part_233 : decode cX10_part 233 = .ok (.ifCond .eq 11, 3) := by decide +kernel
theorem dX10_part_236 : decode cX10_part 236 = .ok (.iload 4, 2) := by decide +kernel
theorem dX10_part_238 : decode cX10_part 238 = .ok (.bipush 10, 2) := by decide +kernel
theorem dX10_part_240 : decode cX10_part 240 = .ok (.irem, 1) := by decide +kernel
theorem dX10_part_241 : decode cX10_part 241 = .ok (.goto 5, 3) := by decide +kernel
theorem dX10_part_244 : decode cX10_part 244 = .ok (.bipush (-9), 2) := by decide +kernel
theorem dX10_part_246 : decode cX10_part 246 = .ok (.iastore, 1) := by decide +kernel
theorem dX10_part_247 : decode cX10_part 247 = .ok (.aload_n 0, 1) := by decide +kernel
theorem dX10_part_248 : decode cX10_part 248 = .ok (.getfield 17, 3) := by decide +kernel
theorem dX10_part_251 : decode cX10_part 251 = .ok (.iload 6, 2) := by decide +kernel
theorem dX10_part_253 : decode cX10_part 253 = .ok (.bipush 8, 2) := by decide +kernel
theorem dX10_part_255 : decode cX10_part 255 = .ok (.iadd, 1) := by decide +kernel
theorem dX10_part_256 : decode cX10_part 256 = .ok (.iload_n 1, 1) := by decide +kernel
theorem dX10_part_257 : decode cX10_part 257 = .ok (.invokestatic 140, 3) := by decide +kernel
theorem dX10_part_260 : decode cX10_part 260 = .ok (.ifCond .eq 11, 3) := by decide +kernel
theorem dX10_part_263 : decode cX10_part 263 = .ok (.iload 5, 2) := by decide +kernel
theorem dX10_part_265 : decode cX10_part 265 = .ok (.bipush 10, 2) := by decide +kernel
theorem dX10_part_267 : decode cX10_part 267 = .ok (.irem, 1) := by decide +kernel
theorem dX10_part_268 : decode cX10_part 268 = .ok (.goto 5, 3) := by decide +kernel
theorem dX10_part_271 : decode cX10_part 271 = .ok (.bipush (-9), 2) := by decide +kernel
theorem dX10_part_273 : decode cX10_part 273 = .ok (.iastore, 1) := by decide +kernel
theorem dX10_part_274 : decode cX10_part 274 = .ok (.aload_n 0, 1) := by decide +kernel
theorem dX10_part_275 : decode cX10_part 275 = .ok (.getfield 17, 3) := by decide +kernel
theorem dX10_part_278 : decode cX10_part 278 = .ok (.iload 6, 2) := by decide +kernel
theorem dX10_part_280 : decode cX10_part 280 = .ok (.bipush 9, 2) := by decide +kernel
theorem dX10_part_282 : decode cX10_part 282 = .ok (.iadd, 1) := by decide +kernel
theorem dX10_part_283 : decode cX10_part 283 = .ok (.iload_n 1, 1) := by decide +kernel
theorem dX10_part_284 : decode cX10_part 284 = .ok (.iconst 3, 1) := by decide +kernel
theorem dX10_part_285 : decode cX10_part 285 = .ok (.if_icmp .ne 11, 3) := by decide +kernel
theorem dX10_part_288 : decode cX10_part 288 = .ok (.iload 5, 2) := by decide +kernel
theorem dX10_part_290 : decode cX10_part 290 = .ok (.bipush 10, 2) := by decide +kernel
theorem dX10_part_292 : decode cX10_part 292 = .ok (.idiv, 1) := by decide +kernel
theorem dX10_part_293 : decode cX10_part 293 = .ok (.goto 5, 3) := by decide +kernel
theorem dX10_part_296 : decode cX10_part 296 = .ok (.bipush (-9), 2) := by decide +kernel
theorem dX10_part_298 : decode cX10_part 298 = .ok (.iastore, 1) := by decide +kernel
theorem dX10_part_299 : decode cX10_part 299 = .ok (.aload_n 0, 1) := by decide +kernel
theorem dX10_part_300 : decode cX10_part 300 = .ok (.getfield 20, 3) := by decide +kernel
theorem dX10_part_303 : decode cX10_part 303 = .ok (.iconst 2, 1) := by decide +kernel
theorem dX10_part_304 : decode cX10_part 304 = .ok (.aload_n 0, 1) := by decide +kernel
theorem dX10_part_305 : decode cX10_part 305 = .ok (.getfield 111, 3) := by decide +kernel
theorem dX10_part_308 : decode cX10_part 308 = .ok (.imul, 1) := by decide +kernel
theorem dX10_part_309 : decode cX10_part 309 = .ok (.iconst 0, 1) := by decide +kernel
theorem dX10_part_310 : decode cX10_part 310 = .ok (.iastore, 1) := by decide +kernel
theorem dX10_part_311 : decode cX10_part 311 = .ok (.aload_n 0, 1) := by decide +kernel
theorem dX10_part_312 : decode cX10_part 312 = .ok (.getfield 20, 3) := by decide +kernel
theorem dX10_part_315 : decode cX10_part 315 = .ok (.iconst 2, 1) := by decide +kernel
theorem dX10_part_316 : decode cX10_part 316 = .ok (.aload_n 0, 1) := by decide +kernel
theorem dX10_part_317 : decode cX10_part 317 = .ok (.getfield 111, 3) := by decide +kernel
theorem dX10_part_320 : decode cX10_part 320 = .ok (.imul, 1) := by decide +kernel
theorem dX10_part_321 : decode cX10_part 321 = .ok (.iconst 1, 1) := by decide +kernel
theorem dX10_part_322 : decode cX10_part 322 = .ok (.iadd, 1) := by decide +kernel
theorem dX10_part_323 : decode cX10_part 323 = .ok (.iconst 0, 1) := by decide +kernel
theorem dX10_part_324 : decode cX10_part 324 = .ok (.iastore, 1) := by decide +kernel
theorem dX10_part_325 : decode cX10_part 325 = .ok (.aload_n 0, 1) := by decide +kernel
theorem dX10_part_326 : decode cX10_part 326 = .ok (.dup, 1) := by decide +kernel
theorem dX10_part_327 : decode cX10_part 327 = .ok (.getfield 111, 3) := by decide +kernel
theorem dX10_part_330 : decode cX10_part 330 = .ok (.iconst 1, 1) := by decide +kernel
theorem dX10_part_331 : decode cX10_part 331 = .ok (.iadd, 1) := by decide +kernel
theorem dX10_part_332 : decode cX10_part 332 = .ok (.putfield 111, 3) := by decide +kernel
theorem dX10_part_335 : decode cX10_part 335 = .ok (.aload_n 0, 1) := by decide +kernel
theorem dX10_part_336 : decode cX10_part 336 = .ok (.getfield 111, 3) := by decide +kernel
theorem dX10_part_339 : decode cX10_part 339 = .ok (.iconst 1, 1) := by decide +kernel
theorem dX10_part_340 : decode cX10_part 340 = .ok (.isub, 1) := by decide +kernel
theorem dX10_part_341 : decode cX10_part 341 = .ok (.ireturn, 1) := by decide +kernel
theorem dX10_partOf_0 : decode cX10_partOf 0 = .ok (.aload_n 0, 1) := by decide +kernel
theorem dX10_partOf_1 : decode cX10_partOf 1 = .ok (.iload_n 1, 1) := by decide +kernel
theorem dX10_partOf_2 : decode cX10_partOf 2 = .ok (.invokevirtual 134, 3) := by decide +kernel
theorem dX10_partOf_5 : decode cX10_partOf 5 = .ok (.ifCond .eq 13, 3) := by decide +kernel
theorem dX10_partOf_8 : decode cX10_partOf 8 = .ok (.iload_n 2, 1) := by decide +kernel
theorem dX10_partOf_9 : decode cX10_partOf 9 = .ok (.iconst 0, 1) := by decide +kernel
theorem dX10_partOf_10 : decode cX10_partOf 10 = .ok (.bipush 8, 2) := by decide +kernel
theorem dX10_partOf_12 : decode cX10_partOf 12 = .ok (.invokestatic 114, 3) := by decide +kernel
theorem dX10_partOf_15 : decode cX10_partOf 15 = .ok (.ifCond .ne 5, 3) := by decide +kernel
theorem dX10_partOf_18 : decode cX10_partOf 18 = .ok (.iconst (-1), 1) := by decide +kernel
theorem dX10_partOf_19 : decode cX10_partOf 19 = .ok (.ireturn, 1) := by decide +kernel
theorem dX10_partOf_20 : decode cX10_partOf 20 = .ok (.iload_n 2, 1) := by decide +kernel
theorem dX10_partOf_21 : decode cX10_partOf 21 = .ok (.ifCond .ne 12, 3) := by decide +kernel
theorem dX10_partOf_24 : decode cX10_partOf 24 = .ok (.aload_n 0, 1) := by decide +kernel
theorem dX10_partOf_25 : decode cX10_partOf 25 = .ok (.iload_n 1, 1) := by decide +kernel
theorem dX10_partOf_26 : decode cX10_partOf 26 = .ok (.iconst 0, 1) := by decide +kernel
theorem dX10_partOf_27 : decode cX10_partOf 27 = .ok (.invokevirtual 137, 3) := by decide +kernel
theorem dX10_partOf_30 : decode cX10_partOf 30 = .ok (.goto 35, 3) := by decide +kernel
theorem dX10_partOf_33 : decode cX10_partOf 33 = .ok (.iload_n 2, 1) := by decide +kernel
theorem dX10_partOf_34 : decode cX10_partOf 34 = .ok (.iconst 1, 1) := by decide +kernel
theorem dX10_partOf_35 : decode cX10_partOf 35 = .ok (.if_icmp .ne 22, 3) := by decide +kernel
theorem dX10_partOf_38 : decode cX10_partOf 38 = .ok (.bipush 10, 2) := by decide +kernel
theorem dX10_partOf_40 : decode cX10_partOf 40 = .ok (.aload_n 0, 1) := by decide +kernel
theorem dX10_partOf_41 : decode cX10_partOf 41 = .ok (.iload_n 1, 1) := by decide +kernel
theorem dX10_partOf_42 : decode cX10_partOf 42 = .ok (.iconst 1, 1) := by decide +kernel
theorem dX10_partOf_43 : decode cX10_partOf 43 = .ok (.invokevirtual 137, 3) := by decide +kernel
theorem dX10_partOf_46 : decode cX10_partOf 46 = .ok (.imul, 1) := by decide +kernel
theorem dX10_partOf_47 : decode cX10_partOf 47 = .ok (.aload_n 0, 1) := by decide +kernel
theorem dX10_partOf_48 : decode cX10_partOf 48 = .ok (.iload_n 1, 1) := by decide +kernel
theorem dX10_partOf_49 : decode cX10_partOf 49 = .ok (.iconst 2, 1) := by decide +kernel
theorem dX10_partOf_50 : decode cX10_partOf 50 = .ok (.invokevirtual 137, 3) := by decide +kernel
theorem dX10_partOf_53 : decode cX10_partOf 53 = .ok (.iadd, 1) := by decide +kernel
theorem dX10_partOf_54 : decode cX10_partOf 54 = .ok (.goto 11, 3) := by decide +kernel
theorem dX10_partOf_57 : decode cX10_partOf 57 = .ok (.aload_n 0, 1) := by decide +kernel
theorem dX10_partOf_58 : decode cX10_partOf 58 = .ok (.iload_n 1, 1) := by decide +kernel
theorem dX10_partOf_59 : decode cX10_partOf 59 = .ok (.iload_n 2, 1) := by decide +kernel
theorem dX10_partOf_60 : decode cX10_partOf 60 = .ok (.iconst 1, 1) := by decide +kernel
theorem dX10_partOf_61 : decode cX10_partOf 61 = .ok (.iadd, 1) := by decide +kernel
theorem dX10_partOf_62 : decode cX10_partOf 62 = .ok (.invokevirtual 137, 3) := by decide +kernel
theorem dX10_partOf_65 : decode cX10_partOf 65 = .ok (.ireturn, 1) := by decide +kernel
theorem dX10_size_0 : decode cX10_size 0 = .ok (.aload_n 0, 1) := by decide +kernel
theorem dX10_size_1 : decode cX10_size 1 = .ok (.iload_n 1, 1) := by decide +kernel
theorem dX10_size_2 : decode cX10_size 2 = .ok (.invokevirtual 134, 3) := by decide +kernel
theorem dX10_size_5 : decode cX10_size 5 = .ok (.ifCond .eq 13, 3) := by decide +kernel
theorem dX10_size_8 : decode cX10_size 8 = .ok (.iload_n 2, 1) := by decide +kernel
theorem dX10_size_9 : decode cX10_size 9 = .ok (.iconst 1, 1) := by decide +kernel
theorem dX10_size_10 : decode cX10_size 10 = .ok (.bipush 9, 2) := by decide +kernel
theorem dX10_size_12 : decode cX10_size 12 = .ok (.invokestatic 114, 3) := by decide +kernel
theorem dX10_size_15 : decode cX10_size 15 = .ok (.ifCond .ne 5, 3) := by decide +kernel
theorem dX10_size_18 : decode cX10_size 18 = .ok (.iconst (-1), 1) := by decide +kernel
theorem dX10_size_19 : decode cX10_size 19 = .ok (.ireturn, 1) := by decide +kernel
theorem dX10_size_20 : decode cX10_size 20 = .ok (.aload_n 0, 1) := by decide +kernel
theorem dX10_size_21 : decode cX10_size 21 = .ok (.iload_n 1, 1) := by decide +kernel
theorem dX10_size_22 : decode cX10_size 22 = .ok (.iconst 3, 1) := by decide +kernel
theorem dX10_size_23 : decode cX10_size 23 = .ok (.invokevirtual 137, 3) := by decide +kernel
theorem dX10_size_26 : decode cX10_size 26 = .ok (.istore_n 3, 1) := by decide +kernel
theorem dX10_size_27 : decode cX10_size 27 = .ok (.aload_n 0, 1) := by decide +kernel
theorem dX10_size_28 : decode cX10_size 28 = .ok (.getfield 17, 3) := by decide +kernel
theorem dX10_size_31 : decode cX10_size 31 = .ok (.bipush 10, 2) := by decide +kernel
theorem dX10_size_33 : decode cX10_size 33 = .ok (.iload_n 1, 1) := by decide +kernel
theorem dX10_size_34 : decode cX10_size 34 = .ok (.imul, 1) := by decide +kernel
theorem dX10_size_35 : decode cX10_size 35 = .ok (.iconst 3, 1) := by decide +kernel
theorem dX10_size_36 : decode cX10_size 36 = .ok (.iadd, 1) := by decide +kernel
theorem dX10_size_37 : decode cX10_size 37 = .ok (.iload_n 2, 1) := by decide +kernel
theorem dX10_size_38 : decode cX10_size 38 = .ok (.iastore, 1) := by decide +kernel
theorem dX10_size_39 : decode cX10_size 39 = .ok (.iload_n 3, 1) := by decide +kernel
theorem dX10_size_40 : decode cX10_size 40 = .ok (.ireturn, 1) := by decide +kernel
theorem dX10_breaks_0 : decode cX10_breaks 0 = .ok (.aload_n 0, 1) := by decide +kernel
theorem dX10_breaks_1 : decode cX10_breaks 1 = .ok (.iload_n 1, 1) := by decide +kernel
theorem dX10_breaks_2 : decode cX10_breaks 2 = .ok (.invokevirtual 134, 3) := by decide +kernel
theorem dX10_breaks_5 : decode cX10_breaks 5 = .ok (.ifCond .eq 12, 3) := by decide +kernel
theorem dX10_breaks_8 : decode cX10_breaks 8 = .ok (.iload_n 2, 1) := by decide +kernel
theorem dX10_breaks_9 : decode cX10_breaks 9 = .ok (.iconst 0, 1) := by decide +kernel
theorem dX10_breaks_10 : decode cX10_breaks 10 = .ok (.iconst 2, 1) := by decide +kernel
theorem dX10_breaks_11 : decode cX10_breaks 11 = .ok (.invokestatic 114, 3) := by decide +kernel
theorem dX10_breaks_14 : decode cX10_breaks 14 = .ok (.ifCond .ne 5, 3) := by decide +kernel
theorem dX10_breaks_17 : decode cX10_breaks 17 = .ok (.iconst (-1), 1) := by decide +kernel
theorem dX10_breaks_18 : decode cX10_breaks 18 = .ok (.ireturn, 1) := by decide +kernel
theorem dX10_breaks_19 : decode cX10_breaks 19 = .ok (.aload_n 0, 1) := by decide +kernel
theorem dX10_breaks_20 : decode cX10_breaks 20 = .ok (.iload_n 1, 1) := by decide +kernel
theorem dX10_breaks_21 : decode cX10_breaks 21 = .ok (.iconst 4, 1) := by decide +kernel
theorem dX10_breaks_22 : decode cX10_breaks 22 = .ok (.invokevirtual 137, 3) := by decide +kernel
theorem dX10_breaks_25 : decode cX10_breaks 25 = .ok (.istore_n 3, 1) := by decide +kernel
theorem dX10_breaks_26 : decode cX10_breaks 26 = .ok (.aload_n 0, 1) := by decide +kernel
theorem dX10_breaks_27 : decode cX10_breaks 27 = .ok (.getfield 17, 3) := by decide +kernel
theorem dX10_breaks_30 : decode cX10_breaks 30 = .ok (.bipush 10, 2) := by decide +kernel
theorem dX10_breaks_32 : decode cX10_breaks 32 = .ok (.iload_n 1, 1) := by decide +kernel
theorem dX10_breaks_33 : decode cX10_breaks 33 = .ok (.imul, 1) := by decide +kernel
theorem dX10_breaks_34 : decode cX10_breaks 34 = .ok (.iconst 4, 1) := by decide +kernel
theorem dX10_breaks_35 : decode cX10_breaks 35 = .ok (.iadd, 1) := by decide +kernel
theorem dX10_breaks_36 : decode cX10_breaks 36 = .ok (.iload_n 2, 1) := by decide +kernel
theorem dX10_breaks_37 : decode cX10_breaks 37 = .ok (.iastore, 1) := by decide +kernel
theorem dX10_breaks_38 : decode cX10_breaks 38 = .ok (.iload_n 3, 1) := by decide +kernel
theorem dX10_breaks_39 : decode cX10_breaks 39 = .ok (.ireturn, 1) := by decide +kernel
theorem dX10_drop_0 : decode cX10_drop 0 = .ok (.aload_n 0, 1) := by decide +kernel
theorem dX10_drop_1 : decode cX10_drop 1 = .ok (.getfield 111, 3) := by decide +kernel
theorem dX10_drop_4 : decode cX10_drop 4 = .ok (.ifCond .ne 6, 3) := by decide +kernel
theorem dX10_drop_7 : decode cX10_drop 7 = .ok (.bipush (-3), 2) := by decide +kernel
theorem dX10_drop_9 : decode cX10_drop 9 = .ok (.ireturn, 1) := by decide +kernel
theorem dX10_drop_10 : decode cX10_drop 10 = .ok (.aload_n 0, 1) := by decide +kernel
theorem dX10_drop_11 : decode cX10_drop 11 = .ok (.dup, 1) := by decide +kernel
theorem dX10_drop_12 : decode cX10_drop 12 = .ok (.getfield 111, 3) := by decide +kernel
theorem dX10_drop_15 : decode cX10_drop 15 = .ok (.iconst 1, 1) := by decide +kernel
theorem dX10_drop_16 : decode cX10_drop 16 = .ok (.isub, 1) := by decide +kernel
theorem dX10_drop_17 : decode cX10_drop 17 = .ok (.putfield 111, 3) := by decide +kernel
theorem dX10_drop_20 : decode cX10_drop 20 = .ok (.iconst 0, 1) := by decide +kernel
theorem dX10_drop_21 : decode cX10_drop 21 = .ok (.istore_n 1, 1) := by decide +kernel
theorem dX10_drop_22 : decode cX10_drop 22 = .ok (.iconst 0, 1) := by decide +kernel
theorem dX10_drop_23 : decode cX10_drop 23 = .ok (.istore_n 2, 1) := by decide +kernel
theorem dX10_drop_24 : decode cX10_drop 24 = .ok (.iload_n 2, 1) := by decide +kernel
theorem dX10_drop_25 : decode cX10_drop 25 = .ok (.aload_n 0, 1) := by decide +kernel
theorem dX10_drop_26 : decode cX10_drop 26 = .ok (.getfield 153, 3) := by decide +kernel
theorem dX10_drop_29 : decode cX10_drop 29 = .ok (.if_icmp .ge 63, 3) := by decide +kernel
theorem dX10_drop_32 : decode cX10_drop 32 = .ok (.aload_n 0, 1) := by decide +kernel
theorem dX10_drop_33 : decode cX10_drop 33 = .ok (.getfield 23, 3) := by decide +kernel
theorem dX10_drop_36 : decode cX10_drop 36 = .ok (.iconst 2, 1) := by decide +kernel
theorem dX10_drop_37 : decode cX10_drop 37 = .ok (.iload_n 2, 1) := by decide +kernel
theorem dX10_drop_38 : decode cX10_drop 38 = .ok (.imul, 1) := by decide +kernel
theorem dX10_drop_39 : decode cX10_drop 39 = .ok (.iaload, 1) := by decide +kernel
theorem dX10_drop_40 : decode cX10_drop 40 = .ok (.aload_n 0, 1) := by decide +kernel
theorem dX10_drop_41 : decode cX10_drop 41 = .ok (.getfield 111, 3) := by decide +kernel
theorem dX10_drop_44 : decode cX10_drop 44 = .ok (.if_icmp .eq 42, 3) := by decide +kernel
theorem dX10_drop_47 : decode cX10_drop 47 = .ok (.aload_n 0, 1) := by decide +kernel
theorem dX10_drop_48 : decode cX10_drop 48 = .ok (.getfield 23, 3) := by decide +kernel
theorem dX10_drop_51 : decode cX10_drop 51 = .ok (.iconst 2, 1) := by decide +kernel
theorem dX10_drop_52 : decode cX10_drop 52 = .ok (.iload_n 1, 1) := by decide +kernel
theorem dX10_drop_53 : decode cX10_drop 53 = .ok (.imul, 1) := by decide +kernel
theorem dX10_drop_54 : decode cX10_drop 54 = .ok (.aload_n 0, 1) := by decide +kernel
theorem dX10_drop_55 : decode cX10_drop 55 = .ok (.getfield 23, 3) := by decide +kernel
theorem dX10_drop_58 : decode cX10_drop 58 = .ok (.iconst 2, 1) := by decide +kernel
theorem dX10_drop_59 : decode cX10_drop 59 = .ok (.iload_n 2, 1) := by decide +kernel
theorem dX10_drop_60 : decode cX10_drop 60 = .ok (.imul, 1) := by decide +kernel
theorem dX10_drop_61 : decode cX10_drop 61 = .ok (.iaload, 1) := by decide +kernel
theorem dX10_drop_62 : decode cX10_drop 62 = .ok (.iastore, 1) := by decide +kernel
theorem dX10_drop_63 : decode cX10_drop 63 = .ok (.aload_n 0, 1) := by decide +kernel
theorem dX10_drop_64 : decode cX10_drop 64 = .ok (.getfield 23, 3) := by decide +kernel
theorem dX10_drop_67 : decode cX10_drop 67 = .ok (.iconst 2, 1) := by decide +kernel
theorem dX10_drop_68 : decode cX10_drop 68 = .ok (.iload_n 1, 1) := by decide +kernel
theorem dX10_drop_69 : decode cX10_drop 69 = .ok (.imul, 1) := by decide +kernel
theorem dX10_drop_70 : decode cX10_drop 70 = .ok (.iconst 1, 1) := by decide +kernel
theorem dX10_drop_71 : decode cX10_drop 71 = .ok (.iadd, 1) := by decide +kernel
theorem dX10_drop_72 : decode cX10_drop 72 = .ok (.aload_n 0, 1) := by decide +kernel
theorem dX10_drop_73 : decode cX10_drop 73 = .ok (.getfield 23, 3) := by decide +kernel
theorem dX10_drop_76 : decode cX10_drop 76 = .ok (.iconst 2, 1) := by decide +kernel
theorem dX10_drop_77 : decode cX10_drop 77 = .ok (.iload_n 2, 1) := by decide +kernel
theorem dX10_drop_78 : decode cX10_drop 78 = .ok (.imul, 1) := by decide +kernel
theorem dX10_drop_79 : decode cX10_drop 79 = .ok (.iconst 1, 1) := by decide +kernel
theorem dX10_drop_80 : decode cX10_drop 80 = .ok (.iadd, 1) := by decide +kernel
theorem dX10_drop_81 : decode cX10_drop 81 = .ok (.iaload, 1) := by decide +kernel
theorem dX10_drop_82 : decode cX10_drop 82 = .ok (.iastore, 1) := by decide +kernel
theorem dX10_drop_83 : decode cX10_drop 83 = .ok (.iinc 1 1, 3) := by decide +kernel
theorem dX10_drop_86 : decode cX10_drop 86 = .ok (.iinc 2 1, 3) := by decide +kernel
theorem dX10_drop_89 : decode cX10_drop 89 = .ok (.goto (-65), 3) := by decide +kernel
theorem dX10_drop_92 : decode cX10_drop 92 = .ok (.aload_n 0, 1) := by decide +kernel
theorem dX10_drop_93 : decode cX10_drop 93 = .ok (.iload_n 1, 1) := by decide +kernel
theorem dX10_drop_94 : decode cX10_drop 94 = .ok (.putfield 153, 3) := by decide +kernel
theorem dX10_drop_97 : decode cX10_drop 97 = .ok (.aload_n 0, 1) := by decide +kernel
theorem dX10_drop_98 : decode cX10_drop 98 = .ok (.getfield 20, 3) := by decide +kernel
theorem dX10_drop_101 : decode cX10_drop 101 = .ok (.iconst 2, 1) := by decide +kernel
theorem dX10_drop_102 : decode cX10_drop 102 = .ok (.aload_n 0, 1) := by decide +kernel
theorem dX10_drop_103 : decode cX10_drop 103 = .ok (.getfield 111, 3) := by decide +kernel
theorem dX10_drop_106 : decode cX10_drop 106 = .ok (.imul, 1) := by decide +kernel
theorem dX10_drop_107 : decode cX10_drop 107 = .ok (.iconst 0, 1) := by decide +kernel
theorem dX10_drop_108 : decode cX10_drop 108 = .ok (.iastore, 1) := by decide +kernel
theorem dX10_drop_109 : decode cX10_drop 109 = .ok (.aload_n 0, 1) := by decide +kernel
theorem dX10_drop_110 : decode cX10_drop 110 = .ok (.getfield 20, 3) := by decide +kernel
theorem dX10_drop_113 : decode cX10_drop 113 = .ok (.iconst 2, 1) := by decide +kernel
theorem dX10_drop_114 : decode cX10_drop 114 = .ok (.aload_n 0, 1) := by decide +kernel
theorem dX10_drop_115 : decode cX10_drop 115 = .ok (.getfield 111, 3) := by decide +kernel
theorem dX10_drop_118 : decode cX10_drop 118 = .ok (.imul, 1) := by decide +kernel
theorem dX10_drop_119 : decode cX10_drop 119 = .ok (.iconst 1, 1) := by decide +kernel
theorem dX10_drop_120 : decode cX10_drop 120 = .ok (.iadd, 1) := by decide +kernel
theorem dX10_drop_121 : decode cX10_drop 121 = .ok (.iconst 0, 1) := by decide +kernel
theorem dX10_drop_122 : decode cX10_drop 122 = .ok (.iastore, 1) := by decide +kernel
theorem dX10_drop_123 : decode cX10_drop 123 = .ok (.aload_n 0, 1) := by decide +kernel
theorem dX10_drop_124 : decode cX10_drop 124 = .ok (.getfield 111, 3) := by decide +kernel
theorem dX10_drop_127 : decode cX10_drop 127 = .ok (.ireturn, 1) := by decide +kernel
theorem dX10_feedAt_0 : decode cX10_feedAt 0 = .ok (.iload_n 1, 1) := by decide +kernel
theorem dX10_feedAt_1 : decode cX10_feedAt 1 = .ok (.iconst 0, 1) := by decide +kernel
theorem dX10_feedAt_2 : decode cX10_feedAt 2 = .ok (.bipush 20, 2) := by decide +kernel
theorem dX10_feedAt_4 : decode cX10_feedAt 4 = .ok (.invokestatic 114, 3) := by decide +kernel
theorem dX10_feedAt_7 : decode cX10_feedAt 7 = .ok (.ifCond .ne 5, 3) := by decide +kernel
theorem dX10_feedAt_10 : decode cX10_feedAt 10 = .ok (.iconst (-1), 1) := by decide +kernel
theorem dX10_feedAt_11 : decode cX10_feedAt 11 = .ok (.ireturn, 1) := by decide +kernel
theorem dX10_feedAt_12 : decode cX10_feedAt 12 = .ok (.aload_n 0, 1) := by decide +kernel
theorem dX10_feedAt_13 : decode cX10_feedAt 13 = .ok (.getfield 7, 3) := by decide +kernel
theorem dX10_feedAt_16 : decode cX10_feedAt 16 = .ok (.istore_n 2, 1) := by decide +kernel
theorem dX10_feedAt_17 : decode cX10_feedAt 17 = .ok (.aload_n 0, 1) := by decide +kernel
theorem dX10_feedAt_18 : decode cX10_feedAt 18 = .ok (.iload_n 1, 1) := by decide +kernel
theorem dX10_feedAt_19 : decode cX10_feedAt 19 = .ok (.putfield 7, 3) := by decide +kernel
theorem dX10_feedAt_22 : decode cX10_feedAt 22 = .ok (.iload_n 2, 1) := by decide +kernel
theorem dX10_feedAt_23 : decode cX10_feedAt 23 = .ok (.ireturn, 1) := by decide +kernel
theorem dX10_start_0 : decode cX10_start 0 = .ok (.iload_n 1, 1) := by decide +kernel
theorem dX10_start_1 : decode cX10_start 1 = .ok (.invokestatic 156, 3) := by decide +kernel
theorem dX10_start_4 : decode cX10_start 4 = .ok (.ifCond .ne 5, 3) := by decide +kernel
theorem dX10_start_7 : decode cX10_start 7 = .ok (.iconst (-1), 1) := by decide +kernel
theorem dX10_start_8 : decode cX10_start 8 = .ok (.ireturn, 1) := by decide +kernel
theorem dX10_start_9 : decode cX10_start 9 = .ok (.aload_n 0, 1) := by decide +kernel
theorem dX10_start_10 : decode cX10_start 10 = .ok (.getfield 159, 3) := by decide +kernel
theorem dX10_start_13 : decode cX10_start 13 = .ok (.istore_n 2, 1) := by decide +kernel
theorem dX10_start_14 : decode cX10_start 14 = .ok (.aload_n 0, 1) := by decide +kernel
theorem dX10_start_15 : decode cX10_start 15 = .ok (.iload_n 1, 1) := by decide +kernel
theorem dX10_start_16 : decode cX10_start 16 = .ok (.putfield 159, 3) := by decide +kernel
theorem dX10_start_19 : decode cX10_start 19 = .ok (.iload_n 2, 1) := by decide +kernel
theorem dX10_start_20 : decode cX10_start 20 = .ok (.ireturn, 1) := by decide +kernel
theorem dX10_stand_0 : decode cX10_stand 0 = .ok (.aload_n 0, 1) := by decide +kernel
theorem dX10_stand_1 : decode cX10_stand 1 = .ok (.getfield 35, 3) := by decide +kernel
theorem dX10_stand_4 : decode cX10_stand 4 = .ok (.iconst 0, 1) := by decide +kernel
theorem dX10_stand_5 : decode cX10_stand 5 = .ok (.iconst 0, 1) := by decide +kernel
theorem dX10_stand_6 : decode cX10_stand 6 = .ok (.iastore, 1) := by decide +kernel
theorem dX10_stand_7 : decode cX10_stand 7 = .ok (.aload_n 0, 1) := by decide +kernel
theorem dX10_stand_8 : decode cX10_stand 8 = .ok (.getfield 35, 3) := by decide +kernel
theorem dX10_stand_11 : decode cX10_stand 11 = .ok (.iconst 1, 1) := by decide +kernel
theorem dX10_stand_12 : decode cX10_stand 12 = .ok (.aload_n 0, 1) := by decide +kernel
theorem dX10_stand_13 : decode cX10_stand 13 = .ok (.getfield 7, 3) := by decide +kernel
theorem dX10_stand_16 : decode cX10_stand 16 = .ok (.iastore, 1) := by decide +kernel
theorem dX10_stand_17 : decode cX10_stand 17 = .ok (.aload_n 0, 1) := by decide +kernel
theorem dX10_stand_18 : decode cX10_stand 18 = .ok (.getfield 35, 3) := by decide +kernel
theorem dX10_stand_21 : decode cX10_stand 21 = .ok (.iconst 2, 1) := by decide +kernel
theorem dX10_stand_22 : decode cX10_stand 22 = .ok (.iload_n 1, 1) := by decide +kernel
theorem dX10_stand_23 : decode cX10_stand 23 = .ok (.sipush 441, 3) := by decide +kernel
theorem dX10_stand_26 : decode cX10_stand 26 = .ok (.idiv, 1) := by decide +kernel
theorem dX10_stand_27 : decode cX10_stand 27 = .ok (.iastore, 1) := by decide +kernel
theorem dX10_stand_28 : decode cX10_stand 28 = .ok (.aload_n 0, 1) := by decide +kernel
theorem dX10_stand_29 : decode cX10_stand 29 = .ok (.getfield 35, 3) := by decide +kernel
theorem dX10_stand_32 : decode cX10_stand 32 = .ok (.iconst 3, 1) := by decide +kernel
theorem dX10_stand_33 : decode cX10_stand 33 = .ok (.iload_n 1, 1) := by decide +kernel
theorem dX10_stand_34 : decode cX10_stand 34 = .ok (.bipush 21, 2) := by decide +kernel
theorem dX10_stand_36 : decode cX10_stand 36 = .ok (.idiv, 1) := by decide +kernel
theorem dX10_stand_37 : decode cX10_stand 37 = .ok (.bipush 21, 2) := by decide +kernel
theorem dX10_stand_39 : decode cX10_stand 39 = .ok (.irem, 1) := by decide +kernel
theorem dX10_stand_40 : decode cX10_stand 40 = .ok (.iastore, 1) := by decide +kernel
theorem dX10_stand_41 : decode cX10_stand 41 = .ok (.aload_n 0, 1) := by decide +kernel
theorem dX10_stand_42 : decode cX10_stand 42 = .ok (.getfield 35, 3) := by decide +kernel
theorem dX10_stand_45 : decode cX10_stand 45 = .ok (.iconst 4, 1) := by decide +kernel
theorem dX10_stand_46 : decode cX10_stand 46 = .ok (.iload_n 1, 1) := by decide +kernel
theorem dX10_stand_47 : decode cX10_stand 47 = .ok (.bipush 21, 2) := by decide +kernel
theorem dX10_stand_49 : decode cX10_stand 49 = .ok (.irem, 1) := by decide +kernel
theorem dX10_stand_50 : decode cX10_stand 50 = .ok (.iastore, 1) := by decide +kernel
theorem dX10_stand_51 : decode cX10_stand 51 = .ok (.return_, 1) := by decide +kernel
theorem dX10_flows_0 : decode cX10_flows 0 = .ok (.aload_n 0, 1) := by decide +kernel
theorem dX10_flows_1 : decode cX10_flows 1 = .ok (.iload_n 1, 1) := by decide +kernel
theorem dX10_flows_2 : decode cX10_flows 2 = .ok (.iconst 0, 1) := by decide +kernel
theorem dX10_flows_3 : decode cX10_flows 3 = .ok (.invokevirtual 137, 3) := by decide +kernel
theorem dX10_flows_6 : decode cX10_flows 6 = .ok (.istore_n 3, 1) := by decide +kernel
theorem dX10_flows_7 : decode cX10_flows 7 = .ok (.aload_n 0, 1) := by decide +kernel
theorem dX10_flows_8 : decode cX10_flows 8 = .ok (.getfield 35, 3) := by decide +kernel
theorem dX10_flows_11 : decode cX10_flows 11 = .ok (.aload_n 0, 1) := by decide +kernel
theorem dX10_flows_12 : decode cX10_flows 12 = .ok (.iload_n 1, 1) := by decide +kernel
theorem dX10_flows_13 : decode cX10_flows 13 = .ok (.iconst 1, 1) := by decide +kernel
theorem dX10_flows_14 : decode cX10_flows 14 = .ok (.invokevirtual 137, 3) := by decide +kernel
theorem dX10_flows_17 : decode cX10_flows 17 = .ok (.iaload, 1) := by decide +kernel
theorem dX10_flows_18 : decode cX10_flows 18 = .ok (.aload_n 0, 1) := by decide +kernel
theorem dX10_flows_19 : decode cX10_flows 19 = .ok (.getfield 35, 3) := by decide +kernel
theorem dX10_flows_22 : decode cX10_flows 22 = .ok (.aload_n 0, 1) := by decide +kernel
theorem dX10_flows_23 : decode cX10_flows 23 = .ok (.iload_n 1, 1) := by decide +kernel
theorem dX10_flows_24 : decode cX10_flows 24 = .ok (.iconst 2, 1) := by decide +kernel
theorem dX10_flows_25 : decode cX10_flows 25 = .ok (.invokevirtual 137, 3) := by decide +kernel
theorem dX10_flows_28 : decode cX10_flows 28 = .ok (.iaload, 1) := by decide +kernel
theorem dX10_flows_29 : decode cX10_flows 29 = .ok (.isub, 1) := by decide +kernel
theorem dX10_flows_30 : decode cX10_flows 30 = .ok (.istore 4, 2) := by decide +kernel
theorem dX10_flows_32 : decode cX10_flows 32 = .ok (.aload_n 0, 1) := by decide +kernel
theorem dX10_flows_33 : decode cX10_flows 33 = .ok (.iload_n 1, 1) := by decide +kernel
theorem dX10_flows_34 : decode cX10_flows 34 = .ok (.iconst 4, 1) := by decide +kernel
theorem dX10_flows_35 : decode cX10_flows 35 = .ok (.invokevirtual 137, 3) := by decide +kernel
theorem dX10_flows_38 : decode cX10_flows 38 = .ok (.ifCond .le 28, 3) := by decide +kernel
theorem dX10_flows_41 : decode cX10_flows 41 = .ok (.aload_n 0, 1) := by decide +kernel
theorem dX10_flows_42 : decode cX10_flows 42 = .ok (.iload_n 1, 1) := by decide +kernel
theorem dX10_flows_43 : decode cX10_flows 43 = .ok (.iconst 4, 1) := by decide +kernel
theorem dX10_flows_44 : decode cX10_flows 44 = .ok (.invokevirtual 137, 3) := by decide +kernel
theorem dX10_flows_47 : decode cX10_flows 47 = .ok (.iconst 1, 1) := by decide +kernel
theorem dX10_flows_48 : decode cX10_flows 48 = .ok (.if_icmp .eq 8, 3) := by decide +kernel
theorem dX10_flows_51 : decode cX10_flows 51 = .ok (.iload_n 3, 1) := by decide +kernel
theorem dX10_flows_52 : decode cX10_flows 52 = .ok (.iconst 4, 1) := by decide +kernel
theorem dX10_flows_53 : decode cX10_flows 53 = .ok (.if_icmp .ne 7, 3) := by decide +kernel
theorem dX10_flows_56 : decode cX10_flows 56 = .ok (.iconst 0, 1) := by decide +kernel
theorem dX10_flows_57 : decode cX10_flows 57 = .ok (.goto 8, 3) := by decide +kernel
theorem dX10_flows_60 : decode cX10_flows 60 = .ok (.bipush 40, 2) := by decide +kernel
theorem dX10_flows_62 : decode cX10_flows 62 = .ok (.iload 4, 2) := by decide +kernel
theorem dX10_flows_64 : decode cX10_flows 64 = .ok (.imul, 1) := by decide +kernel
theorem dX10_flows_65 : decode cX10_flows 65 = .ok (.ireturn, 1) := by decide +kernel
theorem dX10_flows_66 : decode cX10_flows 66 = .ok (.iload_n 3, 1) := by decide +kernel
theorem dX10_flows_67 : decode cX10_flows 67 = .ok (.iconst 4, 1) := by decide +kernel
theorem dX10_flows_68 : decode cX10_flows 68 = .ok (.if_icmp .eq 8, 3) := by decide +kernel
theorem dX10_flows_71 : decode cX10_flows 71 = .ok (.iload_n 3, 1) := by decide +kernel
theorem dX10_flows_72 : decode cX10_flows 72 = .ok (.iconst 5, 1) := by decide +kernel
theorem dX10_flows_73 : decode cX10_flows 73 = .ok (.if_icmp .ne 19, 3) := by decide +kernel
theorem dX10_flows_76 : decode cX10_flows 76 = .ok (.iload_n 3, 1) := by decide +kernel
theorem dX10_flows_77 : decode cX10_flows 77 = .ok (.iconst 4, 1) := by decide +kernel
theorem dX10_flows_78 : decode cX10_flows 78 = .ok (.if_icmp .ne 7, 3) := by decide +kernel
theorem dX10_flows_81 : decode cX10_flows 81 = .ok (.iconst 0, 1) := by decide +kernel
theorem dX10_flows_82 : decode cX10_flows 82 = .ok (.goto 9, 3) := by decide +kernel
theorem dX10_flows_85 : decode cX10_flows 85 = .ok (.aload_n 0, 1) := by decide +kernel
theorem dX10_flows_86 : decode cX10_flows 86 = .ok (.iload_n 1, 1) := by decide +kernel
theorem dX10_flows_87 : decode cX10_flows 87 = .ok (.iconst 3, 1) := by decide +kernel
theorem dX10_flows_88 : decode cX10_flows 88 = .ok (.invokevirtual 137, 3) := by decide +kernel
theorem dX10_flows_91 : decode cX10_flows 91 = .ok (.ireturn, 1) := by decide +kernel
theorem dX10_flows_92 : decode cX10_flows 92 = .ok (.aload_n 0, 1) := by decide +kernel
theorem dX10_flows_93 : decode cX10_flows 93 = .ok (.getfield 13, 3) := by decide +kernel
theorem dX10_flows_96 : decode cX10_flows 96 = .ok (.bipush 21, 2) := by decide +kernel
theorem dX10_flows_98 : decode cX10_flows 98 = .ok (.aload_n 0, 1) := by decide +kernel
theorem dX10_flows_99 : decode cX10_flows 99 = .ok (.iload_n 1, 1) := by decide +kernel
theorem dX10_flows_100 : decode cX10_flows 100 = .ok (.iconst 5, 1) := by decide +kernel
theorem dX10_flows_101 : decode cX10_flows 101 = .ok (.invokevirtual 137, 3) := by decide +kernel
theorem dX10_flows_104 : decode cX10_flows 104 = .ok (.imul, 1) := by decide +kernel
theorem dX10_flows_105 : decode cX10_flows 105 = .ok (.iload 4, 2) := by decide +kernel
theorem dX10_flows_107 : decode cX10_flows 107 = .ok (.ifCond .ge 9, 3) := by decide +kernel
theorem dX10_flows_110 : decode cX10_flows 110 = .ok (.iload 4, 2) := by decide +kernel
theorem dX10_flows_112 : decode cX10_flows 112 = .ok (.ineg, 1) := by decide +kernel
theorem dX10_flows_113 : decode cX10_flows 113 = .ok (.goto 5, 3) := by decide +kernel
theorem dX10_flows_116 : decode cX10_flows 116 = .ok (.iload 4, 2) := by decide +kernel
theorem dX10_flows_118 : decode cX10_flows 118 = .ok (.iadd, 1) := by decide +kernel
theorem dX10_flows_119 : decode cX10_flows 119 = .ok (.iaload, 1) := by decide +kernel
theorem dX10_flows_120 : decode cX10_flows 120 = .ok (.aload_n 0, 1) := by decide +kernel
theorem dX10_flows_121 : decode cX10_flows 121 = .ok (.iload_n 1, 1) := by decide +kernel
theorem dX10_flows_122 : decode cX10_flows 122 = .ok (.bipush 6, 2) := by decide +kernel
theorem dX10_flows_124 : decode cX10_flows 124 = .ok (.invokevirtual 137, 3) := by decide +kernel
theorem dX10_flows_127 : decode cX10_flows 127 = .ok (.iload_n 2, 1) := by decide +kernel
theorem dX10_flows_128 : decode cX10_flows 128 = .ok (.iconst 3, 1) := by decide +kernel
theorem dX10_flows_129 : decode cX10_flows 129 = .ok (.idiv, 1) := by decide +kernel
theorem dX10_flows_130 : decode cX10_flows 130 = .ok (.iconst 1, 1) := by decide +kernel
theorem dX10_flows_131 : decode cX10_flows 131 = .ok (.isub, 1) := by decide +kernel
theorem dX10_flows_132 : decode cX10_flows 132 = .ok (.imul, 1) := by decide +kernel
theorem dX10_flows_133 : decode cX10_flows 133 = .ok (.iadd, 1) := by decide +kernel
theorem dX10_flows_134 : decode cX10_flows 134 = .ok (.istore 5, 2) := by decide +kernel
theorem dX10_flows_136 : decode cX10_flows 136 = .ok (.iload 5, 2) := by decide +kernel
theorem dX10_flows_138 : decode cX10_flows 138 = .ok (.ifCond .lt 8, 3) := by decide +kernel
theorem dX10_flows_141 : decode cX10_flows 141 = .ok (.iload 4, 2) := by decide +kernel
theorem dX10_flows_143 : decode cX10_flows 143 = .ok (.ifCond .ne 7, 3) := by decide +kernel
theorem dX10_flows_146 : decode cX10_flows 146 = .ok (.iconst 0, 1) := by decide +kernel
theorem dX10_flows_147 : decode cX10_flows 147 = .ok (.goto 5, 3) := by decide +kernel
theorem dX10_flows_150 : decode cX10_flows 150 = .ok (.iload 5, 2) := by decide +kernel
theorem dX10_flows_152 : decode cX10_flows 152 = .ok (.istore 5, 2) := by decide +kernel
theorem dX10_flows_154 : decode cX10_flows 154 = .ok (.iload 5, 2) := by decide +kernel
theorem dX10_flows_156 : decode cX10_flows 156 = .ok (.aload_n 0, 1) := by decide +kernel
theorem dX10_flows_157 : decode cX10_flows 157 = .ok (.iload_n 3, 1) := by decide +kernel
theorem dX10_flows_158 : decode cX10_flows 158 = .ok (.iconst 3, 1) := by decide +kernel
theorem dX10_flows_159 : decode cX10_flows 159 = .ok (.if_icmp .ne 13, 3) := by decide +kernel
theorem dX10_flows_162 : decode cX10_flows 162 = .ok (.aload_n 0, 1) := by decide +kernel
theorem dX10_flows_163 : decode cX10_flows 163 = .ok (.iload_n 1, 1) := by decide +kernel
theorem dX10_flows_164 : decode cX10_flows 164 = .ok (.bipush 9, 2) := by decide +kernel
theorem dX10_flows_166 : decode cX10_flows 166 = .ok (.invokevirtual 137, 3) := by decide +kernel
theorem dX10_flows_169 : decode cX10_flows 169 = .ok (.goto 4, 3) := by decide +kernel
theorem dX10_flows_172 : decode cX10_flows 172 = .ok (.iload_n 1, 1) := by decide +kernel
theorem dX10_flows_173 : decode cX10_flows 173 = .ok (.iconst 3, 1) := by decide +kernel
theorem dX10_flows_174 : decode cX10_flows 174 = .ok (.invokevirtual 137, 3) := by decide +kernel
theorem dX10_flows_177 : decode cX10_flows 177 = .ok (.imul, 1) := by decide +kernel
theorem dX10_flows_178 : decode cX10_flows 178 = .ok (.istore 5, 2) := by decide +kernel
theorem dX10_flows_180 : decode cX10_flows 180 = .ok (.iload 5, 2) := by decide +kernel
theorem dX10_flows_182 : decode cX10_flows 182 = .ok (.bipush 10, 2) := by decide +kernel
theorem dX10_flows_184 : decode cX10_flows 184 = .ok (.aload_n 0, 1) := by decide +kernel
theorem dX10_flows_185 : decode cX10_flows 185 = .ok (.iload_n 1, 1) := by decide +kernel
theorem dX10_flows_186 : decode cX10_flows 186 = .ok (.bipush 7, 2) := by decide +kernel
theorem dX10_flows_188 : decode cX10_flows 188 = .ok (.invokevirtual 137, 3) := by decide +kernel
theorem dX10_flows_191 : decode cX10_flows 191 = .ok (.iconst 5, 1) := by decide +kernel
theorem dX10_flows_192 : decode cX10_flows 192 = .ok (.isub, 1) := by decide +kernel
theorem dX10_flows_193 : decode cX10_flows 193 = .ok (.iload_n 2, 1) := by decide +kernel
theorem dX10_flows_194 : decode cX10_flows 194 = .ok (.iconst 3, 1) := by decide +kernel
theorem dX10_flows_195 : decode cX10_flows 195 = .ok (.irem, 1) := by decide +kernel
theorem dX10_flows_196 : decode cX10_flows 196 = .ok (.iconst 1, 1) := by decide +kernel
theorem dX10_flows_197 : decode cX10_flows 197 = .ok (.isub, 1) := by decide +kernel
theorem dX10_flows_198 : decode cX10_flows 198 = .ok (.imul, 1) := by decide +kernel
theorem dX10_flows_199 : decode cX10_flows 199 = .ok (.iadd, 1) := by decide +kernel
theorem dX10_flows_200 : decode cX10_flows 200 = .ok (.imul, 1) := by decide +kernel
theorem dX10_flows_201 : decode cX10_flows 201 = .ok (.bipush 10, 2) := by decide +kernel
theorem dX10_flows_203 : decode cX10_flows 203 = .ok (.idiv, 1) := by decide +kernel
theorem dX10_flows_204 : decode cX10_flows 204 = .ok (.istore 5, 2) := by decide +kernel
theorem dX10_flows_206 : decode cX10_flows 206 = .ok (.iload 4, 2) := by decide +kernel
theorem dX10_flows_208 : decode cX10_flows 208 = .ok (.ifCond .ge 9, 3) := by decide +kernel
theorem dX10_flows_211 : decode cX10_flows 211 = .ok (.iload 5, 2) := by decide +kernel
theorem dX10_flows_213 : decode cX10_flows 213 = .ok (.ineg, 1) := by decide +kernel
theorem dX10_flows_214 : decode cX10_flows 214 = .ok (.goto 5, 3) := by decide +kernel
theorem dX10_flows_217 : decode cX10_flows 217 = .ok (.iload 5, 2) := by decide +kernel
theorem dX10_flows_219 : decode cX10_flows 219 = .ok (.istore 5, 2) := by decide +kernel
theorem dX10_flows_221 : decode cX10_flows 221 = .ok (.iload_n 3, 1) := by decide +kernel
theorem dX10_flows_222 : decode cX10_flows 222 = .ok (.iconst 1, 1) := by decide +kernel
theorem dX10_flows_223 : decode cX10_flows 223 = .ok (.if_icmp .ne 6, 3) := by decide +kernel
theorem dX10_flows_226 : decode cX10_flows 226 = .ok (.iload 5, 2) := by decide +kernel
theorem dX10_flows_228 : decode cX10_flows 228 = .ok (.ireturn, 1) := by decide +kernel
theorem dX10_flows_229 : decode cX10_flows 229 = .ok (.aload_n 0, 1) := by decide +kernel
theorem dX10_flows_230 : decode cX10_flows 230 = .ok (.getfield 35, 3) := by decide +kernel
theorem dX10_flows_233 : decode cX10_flows 233 = .ok (.aload_n 0, 1) := by decide +kernel
theorem dX10_flows_234 : decode cX10_flows 234 = .ok (.iload_n 1, 1) := by decide +kernel
theorem dX10_flows_235 : decode cX10_flows 235 = .ok (.bipush 8, 2) := by decide +kernel
theorem dX10_flows_237 : decode cX10_flows 237 = .ok (.invokevirtual 137, 3) := by decide +kernel
theorem dX10_flows_240 : decode cX10_flows 240 = .ok (.iaload, 1) := by decide +kernel
theorem dX10_flows_241 : decode cX10_flows 241 = .ok (.istore 6, 2) := by decide +kernel
theorem dX10_flows_243 : decode cX10_flows 243 = .ok (.iload 5, 2) := by decide +kernel
theorem dX10_flows_245 : decode cX10_flows 245 = .ok (.iload 6, 2) := by decide +kernel
theorem dX10_flows_247 : decode cX10_flows 247 = .ok (.bipush 10, 2) := by decide +kernel
theorem dX10_flows_249 : decode cX10_flows 249 = .ok (.if_icmp .le 8, 3) := by decide +kernel
theorem dX10_flows_252 : decode cX10_flows 252 = .ok (.bipush 10, 2) := by decide +kernel
theorem dX10_flows_254 : decode cX10_flows 254 = .ok (.goto 5, 3) := by decide +kernel
theorem dX10_flows_257 : decode cX10_flows 257 = .ok (.iload 6, 2) := by decide +kernel
theorem dX10_flows_259 : decode cX10_flows 259 = .ok (.imul, 1) := by decide +kernel
theorem dX10_flows_260 : decode cX10_flows 260 = .ok (.bipush 10, 2) := by decide +kernel
theorem dX10_flows_262 : decode cX10_flows 262 = .ok (.idiv, 1) := by decide +kernel
theorem dX10_flows_263 : decode cX10_flows 263 = .ok (.ireturn, 1) := by decide +kernel
theorem dX10_flow_0 : decode cX10_flow 0 = .ok (.aload_n 0, 1) := by decide +kernel
theorem dX10_flow_1 : decode cX10_flow 1 = .ok (.iload_n 1, 1) := by decide +kernel
theorem dX10_flow_2 : decode cX10_flow 2 = .ok (.invokevirtual 134, 3) := by decide +kernel
theorem dX10_flow_5 : decode cX10_flow 5 = .ok (.ifCond .eq 17, 3) := by decide +kernel
theorem dX10_flow_8 : decode cX10_flow 8 = .ok (.iload_n 2, 1) := by decide +kernel
theorem dX10_flow_9 : decode cX10_flow 9 = .ok (.invokestatic 156, 3) := by decide +kernel
theorem dX10_flow_12 : decode cX10_flow 12 = .ok (.ifCond .eq 10, 3) := by decide +kernel
theorem dX10_flow_15 : decode cX10_flow 15 = .ok (.iload_n 3, 1) := by decide +kernel
theorem dX10_flow_16 : decode cX10_flow 16 = .ok (.invokestatic 162, 3) := by decide +kernel
theorem dX10_flow_19 : decode cX10_flow 19 = .ok (.ifCond .ne 6, 3) := by decide +kernel
theorem dX10_flow_22 : decode cX10_flow 22 = .ok (.ldc 165, 2) := by decide +kernel
theorem dX10_flow_24 : decode cX10_flow 24 = .ok (.ireturn, 1) := by decide +kernel
theorem dX10_flow_25 : decode cX10_flow 25 = .ok (.aload_n 0, 1) := by decide +kernel
theorem dX10_flow_26 : decode cX10_flow 26 = .ok (.iload_n 2, 1) := by decide +kernel
theorem dX10_flow_27 : decode cX10_flow 27 = .ok (.invokevirtual 166, 3) := by decide +kernel
theorem dX10_flow_30 : decode cX10_flow 30 = .ok (.aload_n 0, 1) := by decide +kernel
theorem dX10_flow_31 : decode cX10_flow 31 = .ok (.iload_n 1, 1) := by decide +kernel
theorem dX10_flow_32 : decode cX10_flow 32 = .ok (.iload_n 3, 1) := by decide +kernel
theorem dX10_flow_33 : decode cX10_flow 33 = .ok (.invokevirtual 170, 3) := by decide +kernel
theorem dX10_flow_36 : decode cX10_flow 36 = .ok (.ireturn, 1) := by decide +kernel
theorem dX10_ticks_0 : decode cX10_ticks 0 = .ok (.aload_n 0, 1) := by decide +kernel
theorem dX10_ticks_1 : decode cX10_ticks 1 = .ok (.iload_n 1, 1) := by decide +kernel
theorem dX10_ticks_2 : decode cX10_ticks 2 = .ok (.invokevirtual 166, 3) := by decide +kernel
theorem dX10_ticks_5 : decode cX10_ticks 5 = .ok (.iconst 0, 1) := by decide +kernel
theorem dX10_ticks_6 : decode cX10_ticks 6 = .ok (.istore_n 3, 1) := by decide +kernel
theorem dX10_ticks_7 : decode cX10_ticks 7 = .ok (.iload_n 3, 1) := by decide +kernel
theorem dX10_ticks_8 : decode cX10_ticks 8 = .ok (.iconst 5, 1) := by decide +kernel
theorem dX10_ticks_9 : decode cX10_ticks 9 = .ok (.if_icmp .ge 23, 3) := by decide +kernel
theorem dX10_ticks_12 : decode cX10_ticks 12 = .ok (.aload_n 0, 1) := by decide +kernel
theorem dX10_ticks_13 : decode cX10_ticks 13 = .ok (.getfield 38, 3) := by decide +kernel
theorem dX10_ticks_16 : decode cX10_ticks 16 = .ok (.iload_n 3, 1) := by decide +kernel
theorem dX10_ticks_17 : decode cX10_ticks 17 = .ok (.iconst 0, 1) := by decide +kernel
theorem dX10_ticks_18 : decode cX10_ticks 18 = .ok (.iastore, 1) := by decide +kernel
theorem dX10_ticks_19 : decode cX10_ticks 19 = .ok (.aload_n 0, 1) := by decide +kernel
theorem dX10_ticks_20 : decode cX10_ticks 20 = .ok (.getfield 41, 3) := by decide +kernel
theorem dX10_ticks_23 : decode cX10_ticks 23 = .ok (.iload_n 3, 1) := by decide +kernel
theorem dX10_ticks_24 : decode cX10_ticks 24 = .ok (.iconst 4, 1) := by decide +kernel
theorem dX10_ticks_25 : decode cX10_ticks 25 = .ok (.iastore, 1) := by decide +kernel
theorem dX10_ticks_26 : decode cX10_ticks 26 = .ok (.iinc 3 1, 3) := by decide +kernel
theorem dX10_ticks_29 : decode cX10_ticks 29 = .ok (.goto (-22), 3) := by decide +kernel
theorem dX10_ticks_32 : decode cX10_ticks 32 = .ok (.iconst 0, 1) := by decide +kernel
theorem dX10_ticks_33 : decode cX10_ticks 33 = .ok (.istore_n 3, 1) := by decide +kernel
theorem dX10_ticks_34 : decode cX10_ticks 34 = .ok (.iload_n 3, 1) := by decide +kernel
theorem dX10_ticks_35 : decode cX10_ticks 35 = .ok (.aload_n 0, 1) := by decide +kernel
theorem dX10_ticks_36 : decode cX10_ticks 36 = .ok (.getfield 111, 3) := by decide +kernel
theorem dX10_ticks_39 : decode cX10_ticks 39 = .ok (.if_icmp .ge 112, 3) := by decide +kernel
theorem dX10_ticks_42 : decode cX10_ticks 42 = .ok (.aload_n 0, 1) := by decide +kernel
theorem dX10_ticks_43 : decode cX10_ticks 43 = .ok (.iload_n 3, 1) := by decide +kernel
theorem dX10_ticks_44 : decode cX10_ticks 44 = .ok (.iload_n 2, 1) := by decide +kernel
theorem dX10_ticks_45 : decode cX10_ticks 45 = .ok (.invokevirtual 170, 3) := by decide +kernel
theorem dX10_ticks_48 : decode cX10_ticks 48 = .ok (.istore 4, 2) := by decide +kernel
theorem dX10_ticks_50 : decode cX10_ticks 50 = .ok (.aload_n 0, 1) := by decide +kernel
theorem dX10_ticks_51 : decode cX10_ticks 51 = .ok (.iload_n 3, 1) := by decide +kernel
theorem dX10_ticks_52 : decode cX10_ticks 52 = .ok (.iconst 1, 1) := by decide +kernel
theorem dX10_ticks_53 : decode cX10_ticks 53 = .ok (.invokevirtual 137, 3) := by decide +kernel
theorem dX10_ticks_56 : decode cX10_ticks 56 = .ok (.istore 5, 2) := by decide +kernel
theorem dX10_ticks_58 : decode cX10_ticks 58 = .ok (.aload_n 0, 1) := by decide +kernel
theorem dX10_ticks_59 : decode cX10_ticks 59 = .ok (.iload_n 3, 1) := by decide +kernel
theorem dX10_ticks_60 : decode cX10_ticks 60 = .ok (.iconst 2, 1) := by decide +kernel
theorem dX10_ticks_61 : decode cX10_ticks 61 = .ok (.invokevirtual 137, 3) := by decide +kernel
theorem dX10_ticks_64 : decode cX10_ticks 64 = .ok (.istore 6, 2) := by decide +kernel
theorem dX10_ticks_66 : decode cX10_ticks 66 = .ok (.aload_n 0, 1) := by decide +kernel
theorem dX10_ticks_67 : decode cX10_ticks 67 = .ok (.getfield 38, 3) := by decide +kernel
theorem dX10_ticks_70 : decode cX10_ticks 70 = .ok (.iload 5, 2) := by decide +kernel
theorem dX10_ticks_72 : decode cX10_ticks 72 = .ok (.dup2, 1) := by decide +kernel
theorem dX10_ticks_73 : decode cX10_ticks 73 = .ok (.iaload, 1) := by decide +kernel
theorem dX10_ticks_74 : decode cX10_ticks 74 = .ok (.iload 4, 2) := by decide +kernel
theorem dX10_ticks_76 : decode cX10_ticks 76 = .ok (.isub, 1) := by decide +kernel
theorem dX10_ticks_77 : decode cX10_ticks 77 = .ok (.iastore, 1) := by decide +kernel
theorem dX10_ticks_78 : decode cX10_ticks 78 = .ok (.aload_n 0, 1) := by decide +kernel
theorem dX10_ticks_79 : decode cX10_ticks 79 = .ok (.getfield 38, 3) := by decide +kernel
theorem dX10_ticks_82 : decode cX10_ticks 82 = .ok (.iload 6, 2) := by decide +kernel
theorem dX10_ticks_84 : decode cX10_ticks 84 = .ok (.dup2, 1) := by decide +kernel
theorem dX10_ticks_85 : decode cX10_ticks 85 = .ok (.iaload, 1) := by decide +kernel
theorem dX10_ticks_86 : decode cX10_ticks 86 = .ok (.iload 4, 2) := by decide +kernel
theorem dX10_ticks_88 : decode cX10_ticks 88 = .ok (.iadd, 1) := by decide +kernel
theorem dX10_ticks_89 : decode cX10_ticks 89 = .ok (.iastore, 1) := by decide +kernel
theorem dX10_ticks_90 : decode cX10_ticks 90 = .ok (.aload_n 0, 1) := by decide +kernel
theorem dX10_ticks_91 : decode cX10_ticks 91 = .ok (.iload_n 3, 1) := by decide +kernel
theorem dX10_ticks_92 : decode cX10_ticks 92 = .ok (.iconst 0, 1) := by decide +kernel
theorem dX10_ticks_93 : decode cX10_ticks 93 = .ok (.invokevirtual 137, 3) := by decide +kernel
theorem dX10_ticks_96 : decode cX10_ticks 96 = .ok (.iconst 4, 1) := by decide +kernel
theorem dX10_ticks_97 : decode cX10_ticks 97 = .ok (.if_icmp .ne 21, 3) := by decide +kernel
theorem dX10_ticks_100 : decode cX10_ticks 100 = .ok (.aload_n 0, 1) := by decide +kernel
theorem dX10_ticks_101 : decode cX10_ticks 101 = .ok (.iload_n 3, 1) := by decide +kernel
theorem dX10_ticks_102 : decode cX10_ticks 102 = .ok (.iconst 4, 1) := by decide +kernel
theorem dX10_ticks_103 : decode cX10_ticks 103 = .ok (.invokevirtual 137, 3) := by decide +kernel
theorem dX10_ticks_106 : decode cX10_ticks 106 = .ok (.ifCond .ne 12, 3) := by decide +kernel
theorem dX10_ticks_109 : decode cX10_ticks 109 = .ok (.aload_n 0, 1) := by decide +kernel
theorem dX10_ticks_110 : decode cX10_ticks 110 = .ok (.iload_n 3, 1) := by decide +kernel
theorem dX10_ticks_111 : decode cX10_ticks 111 = .ok (.iconst 3, 1) := by decide +kernel
theorem dX10_ticks_112 : decode cX10_ticks 112 = .ok (.invokevirtual 137, 3) := by decide +kernel
theorem dX10_ticks_115 : decode cX10_ticks 115 = .ok (.goto 4, 3) := by decide +kernel
theorem dX10_ticks_118 : decode cX10_ticks 118 = .ok (.iconst 0, 1) := by decide +kernel
theorem dX10_ticks_119 : decode cX10_ticks 119 = .ok (.istore 7, 2) := by decide +kernel
theorem dX10_ticks_121 : decode cX10_ticks 121 = .ok (.aload_n 0, 1) := by decide +kernel
theorem dX10_ticks_122 : decode cX10_ticks 122 = .ok (.getfield 41, 3) := by decide +kernel
theorem dX10_ticks_125 : decode cX10_ticks 125 = .ok (.iload 5, 2) := by decide +kernel
theorem dX10_ticks_127 : decode cX10_ticks 127 = .ok (.dup2, 1) := by decide +kernel
theorem dX10_ticks_128 : decode cX10_ticks 128 = .ok (.iaload, 1) := by decide +kernel
theorem dX10_ticks_129 : decode cX10_ticks 129 = .ok (.iload 7, 2) := by decide +kernel
theorem dX10_ticks_131 : decode cX10_ticks 131 = .ok (.iadd, 1) := by decide +kernel
theorem dX10_ticks_132 : decode cX10_ticks 132 = .ok (.iastore, 1) := by decide +kernel
theorem dX10_ticks_133 : decode cX10_ticks 133 = .ok (.aload_n 0, 1) := by decide +kernel
theorem dX10_ticks_134 : decode cX10_ticks 134 = .ok (.getfield 41, 3) := by decide +kernel
theorem dX10_ticks_137 : decode cX10_ticks 137 = .ok (.iload 6, 2) := by decide +kernel
theorem dX10_ticks_139 : decode cX10_ticks 139 = .ok (.dup2, 1) := by decide +kernel
theorem dX10_ticks_140 : decode cX10_ticks 140 = .ok (.iaload, 1) := by decide +kernel
theorem dX10_ticks_141 : decode cX10_ticks 141 = .ok (.iload 7, 2) := by decide +kernel
theorem dX10_ticks_143 : decode cX10_ticks 143 = .ok (.iadd, 1) := by decide +kernel
theorem dX10_ticks_144 : decode cX10_ticks 144 = .ok (.iastore, 1) := by decide +kernel
theorem dX10_ticks_145 : decode cX10_ticks 145 = .ok (.iinc 3 1, 3) := by decide +kernel
theorem dX10_ticks_148 : decode cX10_ticks 148 = .ok (.goto (-114), 3) := by decide +kernel
theorem dX10_ticks_151 : decode cX10_ticks 151 = .ok (.iconst 0, 1) := by decide +kernel
theorem dX10_ticks_152 : decode cX10_ticks 152 = .ok (.istore_n 3, 1) := by decide +kernel
theorem dX10_ticks_153 : decode cX10_ticks 153 = .ok (.iconst 2, 1) := by decide +kernel
theorem dX10_ticks_154 : decode cX10_ticks 154 = .ok (.istore 4, 2) := by decide +kernel
theorem dX10_ticks_156 : decode cX10_ticks 156 = .ok (.iload 4, 2) := by decide +kernel
theorem dX10_ticks_158 : decode cX10_ticks 158 = .ok (.iconst 5, 1) := by decide +kernel
theorem dX10_ticks_159 : decode cX10_ticks 159 = .ok (.if_icmp .ge 63, 3) := by decide +kernel
theorem dX10_ticks_162 : decode cX10_ticks 162 = .ok (.aload_n 0, 1) := by decide +kernel
theorem dX10_ticks_163 : decode cX10_ticks 163 = .ok (.getfield 35, 3) := by decide +kernel
theorem dX10_ticks_166 : decode cX10_ticks 166 = .ok (.iload 4, 2) := by decide +kernel
theorem dX10_ticks_168 : decode cX10_ticks 168 = .ok (.iaload, 1) := by decide +kernel
theorem dX10_ticks_169 : decode cX10_ticks 169 = .ok (.aload_n 0, 1) := by decide +kernel
theorem dX10_ticks_170 : decode cX10_ticks 170 = .ok (.getfield 38, 3) := by decide +kernel
theorem dX10_ticks_173 : decode cX10_ticks 173 = .ok (.iload 4, 2) := by decide +kernel
theorem dX10_ticks_175 : decode cX10_ticks 175 = .ok (.iaload, 1) := by decide +kernel
theorem dX10_ticks_176 : decode cX10_ticks 176 = .ok (.aload_n 0, 1) := by decide +kernel
theorem dX10_ticks_177 : decode cX10_ticks 177 = .ok (.getfield 41, 3) := by decide +kernel
theorem dX10_ticks_180 : decode cX10_ticks 180 = .ok (.iload 4, 2) := by decide +kernel
theorem dX10_ticks_182 : decode cX10_ticks 182 = .ok (.iaload, 1) := by decide +kernel
theorem dX10_ticks_183 : decode cX10_ticks 183 = .ok (.idiv, 1) := by decide +kernel
theorem dX10_ticks_184 : decode cX10_ticks 184 = .ok (.iadd, 1) := by decide +kernel
theorem dX10_ticks_185 : decode cX10_ticks 185 = .ok (.istore 5, 2) := by decide +kernel
theorem dX10_ticks_187 : decode cX10_ticks 187 = .ok (.bipush 21, 2) := by decide +kernel
theorem dX10_ticks_189 : decode cX10_ticks 189 = .ok (.iload_n 3, 1) := by decide +kernel
theorem dX10_ticks_190 : decode cX10_ticks 190 = .ok (.imul, 1) := by decide +kernel
theorem dX10_ticks_191 : decode cX10_ticks 191 = .ok (.iload 5, 2) := by decide +kernel
theorem dX10_ticks_193 : decode cX10_ticks 193 = .ok (.ifCond .ge 7, 3) := by decide +kernel
theorem dX10_ticks_196 : decode cX10_ticks 196 = .ok (.iconst 0, 1) := by decide +kernel
theorem dX10_ticks_197 : decode cX10_ticks 197 = .ok (.goto 17, 3) := by decide +kernel
theorem dX10_ticks_200 : decode cX10_ticks 200 = .ok (.iload 5, 2) := by decide +kernel
theorem dX10_ticks_202 : decode cX10_ticks 202 = .ok (.bipush 20, 2) := by decide +kernel
theorem dX10_ticks_204 : decode cX10_ticks 204 = .ok (.if_icmp .le 8, 3) := by decide +kernel
theorem dX10_ticks_207 : decode cX10_ticks 207 = .ok (.bipush 20, 2) := by decide +kernel
theorem dX10_ticks_209 : decode cX10_ticks 209 = .ok (.goto 5, 3) := by decide +kernel
theorem dX10_ticks_212 : decode cX10_ticks 212 = .ok (.iload 5, 2) := by decide +kernel
theorem dX10_ticks_214 : decode cX10_ticks 214 = .ok (.iadd, 1) := by decide +kernel
theorem dX10_ticks_215 : decode cX10_ticks 215 = .ok (.istore_n 3, 1) := by decide +kernel
theorem dX10_ticks_216 : decode cX10_ticks 216 = .ok (.iinc 4 1, 3) := by decide +kernel
theorem dX10_ticks_219 : decode cX10_ticks 219 = .ok (.goto (-63), 3) := by decide +kernel
theorem dX10_ticks_222 : decode cX10_ticks 222 = .ok (.iload_n 3, 1) := by decide +kernel
theorem dX10_ticks_223 : decode cX10_ticks 223 = .ok (.ireturn, 1) := by decide +kernel
theorem dX10_tick_0 : decode cX10_tick 0 = .ok (.iload_n 1, 1) := by decide +kernel
theorem dX10_tick_1 : decode cX10_tick 1 = .ok (.invokestatic 156, 3) := by decide +kernel
theorem dX10_tick_4 : decode cX10_tick 4 = .ok (.ifCond .eq 19, 3) := by decide +kernel
theorem dX10_tick_7 : decode cX10_tick 7 = .ok (.iload_n 2, 1) := by decide +kernel
theorem dX10_tick_8 : decode cX10_tick 8 = .ok (.invokestatic 162, 3) := by decide +kernel
theorem dX10_tick_11 : decode cX10_tick 11 = .ok (.ifCond .eq 12, 3) := by decide +kernel
theorem dX10_tick_14 : decode cX10_tick 14 = .ok (.aload_n 0, 1) := by decide +kernel
theorem dX10_tick_15 : decode cX10_tick 15 = .ok (.iload_n 1, 1) := by decide +kernel
theorem dX10_tick_16 : decode cX10_tick 16 = .ok (.iload_n 2, 1) := by decide +kernel
theorem dX10_tick_17 : decode cX10_tick 17 = .ok (.invokevirtual 173, 3) := by decide +kernel
theorem dX10_tick_20 : decode cX10_tick 20 = .ok (.goto 4, 3) := by decide +kernel
theorem dX10_tick_23 : decode cX10_tick 23 = .ok (.iconst (-1), 1) := by decide +kernel
theorem dX10_tick_24 : decode cX10_tick 24 = .ok (.ireturn, 1) := by decide +kernel
theorem dX10_go_0 : decode cX10_go 0 = .ok (.aload_n 0, 1) := by decide +kernel
theorem dX10_go_1 : decode cX10_go 1 = .ok (.dup, 1) := by decide +kernel
theorem dX10_go_2 : decode cX10_go 2 = .ok (.getfield 176, 3) := by decide +kernel
theorem dX10_go_5 : decode cX10_go 5 = .ok (.iconst 1, 1) := by decide +kernel
theorem dX10_go_6 : decode cX10_go 6 = .ok (.iadd, 1) := by decide +kernel
theorem dX10_go_7 : decode cX10_go 7 = .ok (.putfield 176, 3) := by decide +kernel
theorem dX10_go_10 : decode cX10_go 10 = .ok (.aload_n 0, 1) := by decide +kernel
theorem dX10_go_11 : decode cX10_go 11 = .ok (.getfield 159, 3) := by decide +kernel
theorem dX10_go_14 : decode cX10_go 14 = .ok (.istore_n 2, 1) := by decide +kernel
theorem dX10_go_15 : decode cX10_go 15 = .ok (.iconst 0, 1) := by decide +kernel
theorem dX10_go_16 : decode cX10_go 16 = .ok (.istore_n 3, 1) := by decide +kernel
theorem dX10_go_17 : decode cX10_go 17 = .ok (.aload_n 0, 1) := by decide +kernel
theorem dX10_go_18 : decode cX10_go 18 = .ok (.getfield 44, 3) := by decide +kernel
theorem dX10_go_21 : decode cX10_go 21 = .ok (.iload_n 2, 1) := by decide +kernel
theorem dX10_go_22 : decode cX10_go 22 = .ok (.iaload, 1) := by decide +kernel
theorem dX10_go_23 : decode cX10_go 23 = .ok (.aload_n 0, 1) := by decide +kernel
theorem dX10_go_24 : decode cX10_go 24 = .ok (.getfield 176, 3) := by decide +kernel
theorem dX10_go_27 : decode cX10_go 27 = .ok (.if_icmp .eq 33, 3) := by decide +kernel
theorem dX10_go_30 : decode cX10_go 30 = .ok (.aload_n 0, 1) := by decide +kernel
theorem dX10_go_31 : decode cX10_go 31 = .ok (.getfield 44, 3) := by decide +kernel
theorem dX10_go_34 : decode cX10_go 34 = .ok (.iload_n 2, 1) := by decide +kernel
theorem dX10_go_35 : decode cX10_go 35 = .ok (.aload_n 0, 1) := by decide +kernel
theorem dX10_go_36 : decode cX10_go 36 = .ok (.getfield 176, 3) := by decide +kernel
theorem dX10_go_39 : decode cX10_go 39 = .ok (.iastore, 1) := by decide +kernel
theorem dX10_go_40 : decode cX10_go 40 = .ok (.aload_n 0, 1) := by decide +kernel
theorem dX10_go_41 : decode cX10_go 41 = .ok (.getfield 47, 3) := by decide +kernel
theorem dX10_go_44 : decode cX10_go 44 = .ok (.iload_n 2, 1) := by decide +kernel
theorem dX10_go_45 : decode cX10_go 45 = .ok (.iload_n 3, 1) := by decide +kernel
theorem dX10_go_46 : decode cX10_go 46 = .ok (.iastore, 1) := by decide +kernel
theorem dX10_go_47 : decode cX10_go 47 = .ok (.aload_n 0, 1) := by decide +kernel
theorem dX10_go_48 : decode cX10_go 48 = .ok (.iload_n 2, 1) := by decide +kernel
theorem dX10_go_49 : decode cX10_go 49 = .ok (.iload_n 1, 1) := by decide +kernel
theorem dX10_go_50 : decode cX10_go 50 = .ok (.invokevirtual 173, 3) := by decide +kernel
theorem dX10_go_53 : decode cX10_go 53 = .ok (.istore_n 2, 1) := by decide +kernel
theorem dX10_go_54 : decode cX10_go 54 = .ok (.iinc 3 1, 3) := by decide +kernel
theorem dX10_go_57 : decode cX10_go 57 = .ok (.goto (-40), 3) := by decide +kernel
theorem dX10_go_60 : decode cX10_go 60 = .ok (.aload_n 0, 1) := by decide +kernel
theorem dX10_go_61 : decode cX10_go 61 = .ok (.iload_n 2, 1) := by decide +kernel
theorem dX10_go_62 : decode cX10_go 62 = .ok (.putfield 179, 3) := by decide +kernel
theorem dX10_go_65 : decode cX10_go 65 = .ok (.aload_n 0, 1) := by decide +kernel
theorem dX10_go_66 : decode cX10_go 66 = .ok (.aload_n 0, 1) := by decide +kernel
theorem dX10_go_67 : decode cX10_go 67 = .ok (.getfield 47, 3) := by decide +kernel
theorem dX10_go_70 : decode cX10_go 70 = .ok (.iload_n 2, 1) := by decide +kernel
theorem dX10_go_71 : decode cX10_go 71 = .ok (.iaload, 1) := by decide +kernel
theorem dX10_go_72 : decode cX10_go 72 = .ok (.putfield 182, 3) := by decide +kernel
theorem dX10_go_75 : decode cX10_go 75 = .ok (.aload_n 0, 1) := by decide +kernel
theorem dX10_go_76 : decode cX10_go 76 = .ok (.iload_n 3, 1) := by decide +kernel
theorem dX10_go_77 : decode cX10_go 77 = .ok (.aload_n 0, 1) := by decide +kernel
theorem dX10_go_78 : decode cX10_go 78 = .ok (.getfield 182, 3) := by decide +kernel
theorem dX10_go_81 : decode cX10_go 81 = .ok (.isub, 1) := by decide +kernel
theorem dX10_go_82 : decode cX10_go 82 = .ok (.putfield 185, 3) := by decide +kernel
theorem dX10_go_85 : decode cX10_go 85 = .ok (.return_, 1) := by decide +kernel
theorem dX10_goes_0 : decode cX10_goes 0 = .ok (.iload_n 1, 1) := by decide +kernel
theorem dX10_goes_1 : decode cX10_goes 1 = .ok (.invokestatic 162, 3) := by decide +kernel
theorem dX10_goes_4 : decode cX10_goes 4 = .ok (.ifCond .eq 12, 3) := by decide +kernel
theorem dX10_goes_7 : decode cX10_goes 7 = .ok (.iload_n 2, 1) := by decide +kernel
theorem dX10_goes_8 : decode cX10_goes 8 = .ok (.iconst 0, 1) := by decide +kernel
theorem dX10_goes_9 : decode cX10_goes 9 = .ok (.iconst 2, 1) := by decide +kernel
theorem dX10_goes_10 : decode cX10_goes 10 = .ok (.invokestatic 114, 3) := by decide +kernel
theorem dX10_goes_13 : decode cX10_goes 13 = .ok (.ifCond .ne 5, 3) := by decide +kernel
theorem dX10_goes_16 : decode cX10_goes 16 = .ok (.iconst (-1), 1) := by decide +kernel
theorem dX10_goes_17 : decode cX10_goes 17 = .ok (.ireturn, 1) := by decide +kernel
theorem dX10_goes_18 : decode cX10_goes 18 = .ok (.aload_n 0, 1) := by decide +kernel
theorem dX10_goes_19 : decode cX10_goes 19 = .ok (.iload_n 1, 1) := by decide +kernel
theorem dX10_goes_20 : decode cX10_goes 20 = .ok (.invokevirtual 188, 3) := by decide +kernel
theorem dX10_goes_23 : decode cX10_goes 23 = .ok (.iload_n 2, 1) := by decide +kernel
theorem dX10_goes_24 : decode cX10_goes 24 = .ok (.ifCond .ne 10, 3) := by decide +kernel
theorem dX10_goes_27 : decode cX10_goes 27 = .ok (.aload_n 0, 1) := by decide +kernel
theorem dX10_goes_28 : decode cX10_goes 28 = .ok (.getfield 179, 3) := by decide +kernel
theorem dX10_goes_31 : decode cX10_goes 31 = .ok (.goto 19, 3) := by decide +kernel
theorem dX10_goes_34 : decode cX10_goes 34 = .ok (.iload_n 2, 1) := by decide +kernel
theorem dX10_goes_35 : decode cX10_goes 35 = .ok (.iconst 1, 1) := by decide +kernel
theorem dX10_goes_36 : decode cX10_goes 36 = .ok (.if_icmp .ne 10, 3) := by decide +kernel
theorem dX10_goes_39 : decode cX10_goes 39 = .ok (.aload_n 0, 1) := by decide +kernel
theorem dX10_goes_40 : decode cX10_goes 40 = .ok (.getfield 182, 3) := by decide +kernel
theorem dX10_goes_43 : decode cX10_goes 43 = .ok (.goto 7, 3) := by decide +kernel
theorem dX10_goes_46 : decode cX10_goes 46 = .ok (.aload_n 0, 1) := by decide +kernel
theorem dX10_goes_47 : decode cX10_goes 47 = .ok (.getfield 185, 3) := by decide +kernel
theorem dX10_goes_50 : decode cX10_goes 50 = .ok (.ireturn, 1) := by decide +kernel
theorem dX10_rests_0 : decode cX10_rests 0 = .ok (.iload_n 1, 1) := by decide +kernel
theorem dX10_rests_1 : decode cX10_rests 1 = .ok (.invokestatic 162, 3) := by decide +kernel
theorem dX10_rests_4 : decode cX10_rests 4 = .ok (.ifCond .ne 5, 3) := by decide +kernel
theorem dX10_rests_7 : decode cX10_rests 7 = .ok (.iconst (-1), 1) := by decide +kernel
theorem dX10_rests_8 : decode cX10_rests 8 = .ok (.ireturn, 1) := by decide +kernel
theorem dX10_rests_9 : decode cX10_rests 9 = .ok (.iconst 0, 1) := by decide +kernel
theorem dX10_rests_10 : decode cX10_rests 10 = .ok (.istore_n 2, 1) := by decide +kernel
theorem dX10_rests_11 : decode cX10_rests 11 = .ok (.iconst 0, 1) := by decide +kernel
theorem dX10_rests_12 : decode cX10_rests 12 = .ok (.istore_n 3, 1) := by decide +kernel
theorem dX10_rests_13 : decode cX10_rests 13 = .ok (.iload_n 3, 1) := by decide +kernel
theorem dX10_rests_14 : decode cX10_rests 14 = .ok (.sipush 9261, 3) := by decide +kernel
theorem dX10_rests_17 : decode cX10_rests 17 = .ok (.if_icmp .ge 27, 3) := by decide +kernel
theorem dX10_rests_20 : decode cX10_rests 20 = .ok (.iload_n 2, 1) := by decide +kernel
theorem dX10_rests_21 : decode cX10_rests 21 = .ok (.aload_n 0, 1) := by decide +kernel
theorem dX10_rests_22 : decode cX10_rests 22 = .ok (.iload_n 3, 1) := by decide +kernel
theorem dX10_rests_23 : decode cX10_rests 23 = .ok (.iload_n 1, 1) := by decide +kernel
theorem dX10_rests_24 : decode cX10_rests 24 = .ok (.invokevirtual 173, 3) := by decide +kernel
theorem dX10_rests_27 : decode cX10_rests 27 = .ok (.iload_n 3, 1) := by decide +kernel
theorem dX10_rests_28 : decode cX10_rests 28 = .ok (.if_icmp .ne 7, 3) := by decide +kernel
theorem dX10_rests_31 : decode cX10_rests 31 = .ok (.iconst 1, 1) := by decide +kernel
theorem dX10_rests_32 : decode cX10_rests 32 = .ok (.goto 4, 3) := by decide +kernel
theorem dX10_rests_35 : decode cX10_rests 35 = .ok (.iconst 0, 1) := by decide +kernel
theorem dX10_rests_36 : decode cX10_rests 36 = .ok (.iadd, 1) := by decide +kernel
theorem dX10_rests_37 : decode cX10_rests 37 = .ok (.istore_n 2, 1) := by decide +kernel
theorem dX10_rests_38 : decode cX10_rests 38 = .ok (.iinc 3 1, 3) := by decide +kernel
theorem dX10_rests_41 : decode cX10_rests 41 = .ok (.goto (-28), 3) := by decide +kernel
theorem dX10_rests_44 : decode cX10_rests 44 = .ok (.iload_n 2, 1) := by decide +kernel
theorem dX10_rests_45 : decode cX10_rests 45 = .ok (.ireturn, 1) := by decide +kernel
theorem dX10_restAt_0 : decode cX10_restAt 0 = .ok (.iload_n 1, 1) := by decide +kernel
theorem dX10_restAt_1 : decode cX10_restAt 1 = .ok (.invokestatic 162, 3) := by decide +kernel
theorem dX10_restAt_4 : decode cX10_restAt 4 = .ok (.ifCond .ne 5, 3) := by decide +kernel
theorem dX10_restAt_7 : decode cX10_restAt 7 = .ok (.iconst (-1), 1) := by decide +kernel
theorem dX10_restAt_8 : decode cX10_restAt 8 = .ok (.ireturn, 1) := by decide +kernel
theorem dX10_restAt_9 : decode cX10_restAt 9 = .ok (.iload_n 2, 1) := by decide +kernel
theorem dX10_restAt_10 : decode cX10_restAt 10 = .ok (.istore_n 3, 1) := by decide +kernel
theorem dX10_restAt_11 : decode cX10_restAt 11 = .ok (.iconst 0, 1) := by decide +kernel
theorem dX10_restAt_12 : decode cX10_restAt 12 = .ok (.istore 4, 2) := by decide +kernel
theorem dX10_restAt_14 : decode cX10_restAt 14 = .ok (.iload 4, 2) := by decide +kernel
theorem dX10_restAt_16 : decode cX10_restAt 16 = .ok (.sipush 9261, 3) := by decide +kernel
theorem dX10_restAt_19 : decode cX10_restAt 19 = .ok (.if_icmp .ge 35, 3) := by decide +kernel
theorem dX10_restAt_22 : decode cX10_restAt 22 = .ok (.iload_n 2, 1) := by decide +kernel
theorem dX10_restAt_23 : decode cX10_restAt 23 = .ok (.ifCond .lt 31, 3) := by decide +kernel
theorem dX10_restAt_26 : decode cX10_restAt 26 = .ok (.aload_n 0, 1) := by decide +kernel
theorem dX10_restAt_27 : decode cX10_restAt 27 = .ok (.iload 4, 2) := by decide +kernel
theorem dX10_restAt_29 : decode cX10_restAt 29 = .ok (.iload_n 1, 1) := by decide +kernel
theorem dX10_restAt_30 : decode cX10_restAt 30 = .ok (.invokevirtual 173, 3) := by decide +kernel
theorem dX10_restAt_33 : decode cX10_restAt 33 = .ok (.iload 4, 2) := by decide +kernel
theorem dX10_restAt_35 : decode cX10_restAt 35 = .ok (.if_icmp .ne 13, 3) := by decide +kernel
theorem dX10_restAt_38 : decode cX10_restAt 38 = .ok (.iload_n 3, 1) := by decide +kernel
theorem dX10_restAt_39 : decode cX10_restAt 39 = .ok (.ifCond .ne 6, 3) := by decide +kernel
theorem dX10_restAt_42 : decode cX10_restAt 42 = .ok (.iload 4, 2) := by decide +kernel
theorem dX10_restAt_44 : decode cX10_restAt 44 = .ok (.ireturn, 1) := by decide +kernel
theorem dX10_restAt_45 : decode cX10_restAt 45 = .ok (.iinc 3 (-1), 3) := by decide +kernel
theorem dX10_restAt_48 : decode cX10_restAt 48 = .ok (.iinc 4 1, 3) := by decide +kernel
theorem dX10_restAt_51 : decode cX10_restAt 51 = .ok (.goto (-37), 3) := by decide +kernel
theorem dX10_restAt_54 : decode cX10_restAt 54 = .ok (.bipush (-3), 2) := by decide +kernel
theorem dX10_restAt_56 : decode cX10_restAt 56 = .ok (.ireturn, 1) := by decide +kernel
theorem dX10_gain_0 : decode cX10_gain 0 = .ok (.iload_n 1, 1) := by decide +kernel
theorem dX10_gain_1 : decode cX10_gain 1 = .ok (.invokestatic 131, 3) := by decide +kernel
theorem dX10_gain_4 : decode cX10_gain 4 = .ok (.ifCond .eq 10, 3) := by decide +kernel
theorem dX10_gain_7 : decode cX10_gain 7 = .ok (.iload_n 2, 1) := by decide +kernel
theorem dX10_gain_8 : decode cX10_gain 8 = .ok (.invokestatic 162, 3) := by decide +kernel
theorem dX10_gain_11 : decode cX10_gain 11 = .ok (.ifCond .ne 6, 3) := by decide +kernel
theorem dX10_gain_14 : decode cX10_gain 14 = .ok (.bipush (-99), 2) := by decide +kernel
theorem dX10_gain_16 : decode cX10_gain 16 = .ok (.ireturn, 1) := by decide +kernel
theorem dX10_gain_17 : decode cX10_gain 17 = .ok (.aload_n 0, 1) := by decide +kernel
theorem dX10_gain_18 : decode cX10_gain 18 = .ok (.getfield 7, 3) := by decide +kernel
theorem dX10_gain_21 : decode cX10_gain 21 = .ok (.bipush 20, 2) := by decide +kernel
theorem dX10_gain_23 : decode cX10_gain 23 = .ok (.if_icmp .ne 6, 3) := by decide +kernel
theorem dX10_gain_26 : decode cX10_gain 26 = .ok (.bipush (-98), 2) := by decide +kernel
theorem dX10_gain_28 : decode cX10_gain 28 = .ok (.ireturn, 1) := by decide +kernel
theorem dX10_gain_29 : decode cX10_gain 29 = .ok (.aload_n 0, 1) := by decide +kernel
theorem dX10_gain_30 : decode cX10_gain 30 = .ok (.iload_n 2, 1) := by decide +kernel
theorem dX10_gain_31 : decode cX10_gain 31 = .ok (.invokevirtual 188, 3) := by decide +kernel
theorem dX10_gain_34 : decode cX10_gain 34 = .ok (.aload_n 0, 1) := by decide +kernel
theorem dX10_gain_35 : decode cX10_gain 35 = .ok (.aload_n 0, 1) := by decide +kernel
theorem dX10_gain_36 : decode cX10_gain 36 = .ok (.getfield 179, 3) := by decide +kernel
theorem dX10_gain_39 : decode cX10_gain 39 = .ok (.invokevirtual 166, 3) := by decide +kernel
theorem dX10_gain_42 : decode cX10_gain 42 = .ok (.aload_n 0, 1) := by decide +kernel
theorem dX10_gain_43 : decode cX10_gain 43 = .ok (.getfield 35, 3) := by decide +kernel
theorem dX10_gain_46 : decode cX10_gain 46 = .ok (.iload_n 1, 1) := by decide +kernel
theorem dX10_gain_47 : decode cX10_gain 47 = .ok (.iaload, 1) := by decide +kernel
theorem dX10_gain_48 : decode cX10_gain 48 = .ok (.istore_n 3, 1) := by decide +kernel
theorem dX10_gain_49 : decode cX10_gain 49 = .ok (.aload_n 0, 1) := by decide +kernel
theorem dX10_gain_50 : decode cX10_gain 50 = .ok (.dup, 1) := by decide +kernel
theorem dX10_gain_51 : decode cX10_gain 51 = .ok (.getfield 7, 3) := by decide +kernel
theorem dX10_gain_54 : decode cX10_gain 54 = .ok (.iconst 1, 1) := by decide +kernel
theorem dX10_gain_55 : decode cX10_gain 55 = .ok (.iadd, 1) := by decide +kernel
theorem dX10_gain_56 : decode cX10_gain 56 = .ok (.putfield 7, 3) := by decide +kernel
theorem dX10_gain_59 : decode cX10_gain 59 = .ok (.aload_n 0, 1) := by decide +kernel
theorem dX10_gain_60 : decode cX10_gain 60 = .ok (.iload_n 2, 1) := by decide +kernel
theorem dX10_gain_61 : decode cX10_gain 61 = .ok (.invokevirtual 188, 3) := by decide +kernel
theorem dX10_gain_64 : decode cX10_gain 64 = .ok (.aload_n 0, 1) := by decide +kernel
theorem dX10_gain_65 : decode cX10_gain 65 = .ok (.aload_n 0, 1) := by decide +kernel
theorem dX10_gain_66 : decode cX10_gain 66 = .ok (.getfield 179, 3) := by decide +kernel
theorem dX10_gain_69 : decode cX10_gain 69 = .ok (.invokevirtual 166, 3) := by decide +kernel
theorem dX10_gain_72 : decode cX10_gain 72 = .ok (.aload_n 0, 1) := by decide +kernel
theorem dX10_gain_73 : decode cX10_gain 73 = .ok (.getfield 35, 3) := by decide +kernel
theorem dX10_gain_76 : decode cX10_gain 76 = .ok (.iload_n 1, 1) := by decide +kernel
theorem dX10_gain_77 : decode cX10_gain 77 = .ok (.iaload, 1) := by decide +kernel
theorem dX10_gain_78 : decode cX10_gain 78 = .ok (.istore 4, 2) := by decide +kernel
theorem dX10_gain_80 : decode cX10_gain 80 = .ok (.aload_n 0, 1) := by decide +kernel
theorem dX10_gain_81 : decode cX10_gain 81 = .ok (.dup, 1) := by decide +kernel
theorem dX10_gain_82 : decode cX10_gain 82 = .ok (.getfield 7, 3) := by decide +kernel
theorem dX10_gain_85 : decode cX10_gain 85 = .ok (.iconst 1, 1) := by decide +kernel
theorem dX10_gain_86 : decode cX10_gain 86 = .ok (.isub, 1) := by decide +kernel
theorem dX10_gain_87 : decode cX10_gain 87 = .ok (.putfield 7, 3) := by decide +kernel
theorem dX10_gain_90 : decode cX10_gain 90 = .ok (.iload 4, 2) := by decide +kernel
theorem dX10_gain_92 : decode cX10_gain 92 = .ok (.iload_n 3, 1) := by decide +kernel
theorem dX10_gain_93 : decode cX10_gain 93 = .ok (.isub, 1) := by decide +kernel
theorem dX10_gain_94 : decode cX10_gain 94 = .ok (.ireturn, 1) := by decide +kernel
theorem dX10_feed_0 : decode cX10_feed 0 = .ok (.iload_n 3, 1) := by decide +kernel
theorem dX10_feed_1 : decode cX10_feed 1 = .ok (.iconst 1, 1) := by decide +kernel
theorem dX10_feed_2 : decode cX10_feed 2 = .ok (.bipush 8, 2) := by decide +kernel
theorem dX10_feed_4 : decode cX10_feed 4 = .ok (.invokestatic 114, 3) := by decide +kernel
theorem dX10_feed_7 : decode cX10_feed 7 = .ok (.ifCond .ne 5, 3) := by decide +kernel
theorem dX10_feed_10 : decode cX10_feed 10 = .ok (.iconst (-1), 1) := by decide +kernel
theorem dX10_feed_11 : decode cX10_feed 11 = .ok (.ireturn, 1) := by decide +kernel
theorem dX10_feed_12 : decode cX10_feed 12 = .ok (.aload_n 0, 1) := by decide +kernel
theorem dX10_feed_13 : decode cX10_feed 13 = .ok (.getfield 191, 3) := by decide +kernel
theorem dX10_feed_16 : decode cX10_feed 16 = .ok (.iload_n 3, 1) := by decide +kernel
theorem dX10_feed_17 : decode cX10_feed 17 = .ok (.iadd, 1) := by decide +kernel
theorem dX10_feed_18 : decode cX10_feed 18 = .ok (.sipush 220, 3) := by decide +kernel
theorem dX10_feed_21 : decode cX10_feed 21 = .ok (.if_icmp .le 6, 3) := by decide +kernel
theorem dX10_feed_24 : decode cX10_feed 24 = .ok (.bipush (-2), 2) := by decide +kernel
theorem dX10_feed_26 : decode cX10_feed 26 = .ok (.ireturn, 1) := by decide +kernel
theorem dX10_feed_27 : decode cX10_feed 27 = .ok (.iconst 0, 1) := by decide +kernel
theorem dX10_feed_28 : decode cX10_feed 28 = .ok (.istore 4, 2) := by decide +kernel
theorem dX10_feed_30 : decode cX10_feed 30 = .ok (.iload 4, 2) := by decide +kernel
theorem dX10_feed_32 : decode cX10_feed 32 = .ok (.iload_n 3, 1) := by decide +kernel
theorem dX10_feed_33 : decode cX10_feed 33 = .ok (.if_icmp .ge 40, 3) := by decide +kernel
theorem dX10_feed_36 : decode cX10_feed 36 = .ok (.aload_n 0, 1) := by decide +kernel
theorem dX10_feed_37 : decode cX10_feed 37 = .ok (.getfield 50, 3) := by decide +kernel
theorem dX10_feed_40 : decode cX10_feed 40 = .ok (.aload_n 0, 1) := by decide +kernel
theorem dX10_feed_41 : decode cX10_feed 41 = .ok (.getfield 191, 3) := by decide +kernel
theorem dX10_feed_44 : decode cX10_feed 44 = .ok (.lload_n 1, 1) := by decide +kernel
theorem dX10_feed_45 : decode cX10_feed 45 = .ok (.bipush 8, 2) := by decide +kernel
theorem dX10_feed_47 : decode cX10_feed 47 = .ok (.iload 4, 2) := by decide +kernel
theorem dX10_feed_49 : decode cX10_feed 49 = .ok (.imul, 1) := by decide +kernel
theorem dX10_feed_50 : decode cX10_feed 50 = .ok (.lushr, 1) := by decide +kernel
theorem dX10_feed_51 : decode cX10_feed 51 = .ok (.ldc2_w 194, 3) := by decide +kernel
theorem dX10_feed_54 : decode cX10_feed 54 = .ok (.land, 1) := by decide +kernel
theorem dX10_feed_55 : decode cX10_feed 55 = .ok (.l2i, 1) := by decide +kernel
theorem dX10_feed_56 : decode cX10_feed 56 = .ok (.iastore, 1) := by decide +kernel
theorem dX10_feed_57 : decode cX10_feed 57 = .ok (.aload_n 0, 1) := by decide +kernel
theorem dX10_feed_58 : decode cX10_feed 58 = .ok (.dup, 1) := by decide +kernel
theorem dX10_feed_59 : decode cX10_feed 59 = .ok (.getfield 191, 3) := by decide +kernel
theorem dX10_feed_62 : decode cX10_feed 62 = .ok (.iconst 1, 1) := by decide +kernel
theorem dX10_feed_63 : decode cX10_feed 63 = .ok (.iadd, 1) := by decide +kernel
theorem dX10_feed_64 : decode cX10_feed 64 = .ok (.putfield 191, 3) := by decide +kernel
theorem dX10_feed_67 : decode cX10_feed 67 = .ok (.iinc 4 1, 3) := by decide +kernel
theorem dX10_feed_70 : decode cX10_feed 70 = .ok (.goto (-40), 3) := by decide +kernel
theorem dX10_feed_73 : decode cX10_feed 73 = .ok (.aload_n 0, 1) := by decide +kernel
theorem dX10_feed_74 : decode cX10_feed 74 = .ok (.getfield 191, 3) := by decide +kernel
theorem dX10_feed_77 : decode cX10_feed 77 = .ok (.ireturn, 1) := by decide +kernel
theorem dX10_isLetter_0 : decode cX10_isLetter 0 = .ok (.iload_n 0, 1) := by decide +kernel
theorem dX10_isLetter_1 : decode cX10_isLetter 1 = .ok (.bipush 97, 2) := by decide +kernel
theorem dX10_isLetter_3 : decode cX10_isLetter 3 = .ok (.if_icmp .lt 13, 3) := by decide +kernel
theorem dX10_isLetter_6 : decode cX10_isLetter 6 = .ok (.iload_n 0, 1) := by decide +kernel
theorem dX10_isLetter_7 : decode cX10_isLetter 7 = .ok (.bipush 122, 2) := by decide +kernel
theorem dX10_isLetter_9 : decode cX10_isLetter 9 = .ok (.if_icmp .gt 7, 3) := by decide +kernel
theorem dX10_isLetter_12 : decode cX10_isLetter 12 = .ok (.iconst 1, 1) := by decide +kernel
theorem dX10_isLetter_13 : decode cX10_isLetter 13 = .ok (.goto 4, 3) := by decide +kernel
theorem dX10_isLetter_16 : decode cX10_isLetter 16 = .ok (.iconst 0, 1) := by decide +kernel
theorem dX10_isLetter_17 : decode cX10_isLetter 17 = .ok (.ireturn, 1) := by decide +kernel
theorem dX10_isDigit_0 : decode cX10_isDigit 0 = .ok (.iload_n 0, 1) := by decide +kernel
theorem dX10_isDigit_1 : decode cX10_isDigit 1 = .ok (.bipush 48, 2) := by decide +kernel
theorem dX10_isDigit_3 : decode cX10_isDigit 3 = .ok (.if_icmp .lt 13, 3) := by decide +kernel
theorem dX10_isDigit_6 : decode cX10_isDigit 6 = .ok (.iload_n 0, 1) := by decide +kernel
theorem dX10_isDigit_7 : decode cX10_isDigit 7 = .ok (.bipush 57, 2) := by decide +kernel
theorem dX10_isDigit_9 : decode cX10_isDigit 9 = .ok (.if_icmp .gt 7, 3) := by decide +kernel
theorem dX10_isDigit_12 : decode cX10_isDigit 12 = .ok (.iconst 1, 1) := by decide +kernel
theorem dX10_isDigit_13 : decode cX10_isDigit 13 = .ok (.goto 4, 3) := by decide +kernel
theorem dX10_isDigit_16 : decode cX10_isDigit 16 = .ok (.iconst 0, 1) := by decide +kernel
theorem dX10_isDigit_17 : decode cX10_isDigit 17 = .ok (.ireturn, 1) := by decide +kernel
theorem dX10_advance_0 : decode cX10_advance 0 = .ok (.aload_n 0, 1) := by decide +kernel
theorem dX10_advance_1 : decode cX10_advance 1 = .ok (.getfield 196, 3) := by decide +kernel
theorem dX10_advance_4 : decode cX10_advance 4 = .ok (.istore_n 1, 1) := by decide +kernel
theorem dX10_advance_5 : decode cX10_advance 5 = .ok (.iload_n 1, 1) := by decide +kernel
theorem dX10_advance_6 : decode cX10_advance 6 = .ok (.aload_n 0, 1) := by decide +kernel
theorem dX10_advance_7 : decode cX10_advance 7 = .ok (.getfield 191, 3) := by decide +kernel
theorem dX10_advance_10 : decode cX10_advance 10 = .ok (.if_icmp .ge 20, 3) := by decide +kernel
theorem dX10_advance_13 : decode cX10_advance 13 = .ok (.aload_n 0, 1) := by decide +kernel
theorem dX10_advance_14 : decode cX10_advance 14 = .ok (.getfield 50, 3) := by decide +kernel
theorem dX10_advance_17 : decode cX10_advance 17 = .ok (.iload_n 1, 1) := by decide +kernel
theorem dX10_advance_18 : decode cX10_advance 18 = .ok (.iaload, 1) := by decide +kernel
theorem dX10_advance_19 : decode cX10_advance 19 = .ok (.bipush 32, 2) := by decide +kernel
theorem dX10_advance_21 : decode cX10_advance 21 = .ok (.if_icmp .ne 9, 3) := by decide +kernel
theorem dX10_advance_24 : decode cX10_advance 24 = .ok (.iinc 1 1, 3) := by decide +kernel
theorem dX10_advance_27 : decode cX10_advance 27 = .ok (.goto (-22), 3) := by decide +kernel
theorem dX10_advance_30 : decode cX10_advance 30 = .ok (.aload_n 0, 1) := by decide +kernel
theorem dX10_advance_31 : decode cX10_advance 31 = .ok (.iload_n 1, 1) := by decide +kernel
theorem dX10_advance_32 : decode cX10_advance 32 = .ok (.putfield 199, 3) := by decide +kernel
theorem dX10_advance_35 : decode cX10_advance 35 = .ok (.aload_n 0, 1) := by decide +kernel
theorem dX10_advance_36 : decode cX10_advance 36 = .ok (.lconst 0, 1) := by decide +kernel
theorem dX10_advance_37 : decode cX10_advance 37 = .ok (.putfield 202, 3) := by decide +kernel
theorem dX10_advance_40 : decode cX10_advance 40 = .ok (.iload_n 1, 1) := by decide +kernel
theorem dX10_advance_41 : decode cX10_advance 41 = .ok (.aload_n 0, 1) := by decide +kernel
theorem dX10_advance_42 : decode cX10_advance 42 = .ok (.getfield 191, 3) := by decide +kernel
theorem dX10_advance_45 : decode cX10_advance 45 = .ok (.if_icmp .ne 11, 3) := by decide +kernel
theorem dX10_advance_48 : decode cX10_advance 48 = .ok (.aload_n 0, 1) := by decide +kernel
theorem dX10_advance_49 : decode cX10_advance 49 = .ok (.iconst 0, 1) := by decide +kernel
theorem dX10_advance_50 : decode cX10_advance 50 = .ok (.putfield 206, 3) := by decide +kernel
theorem dX10_advance_53 : decode cX10_advance 53 = .ok (.goto 214, 3) := by decide +kernel
theorem dX10_advance_56 : decode cX10_advance 56 = .ok (.aload_n 0, 1) := by decide +kernel
theorem dX10_advance_57 : decode cX10_advance 57 = .ok (.getfield 50, 3) := by decide +kernel
theorem dX10_advance_60 : decode cX10_advance 60 = .ok (.iload_n 1, 1) := by decide +kernel
theorem dX10_advance_61 : decode cX10_advance 61 = .ok (.iaload, 1) := by decide +kernel
theorem dX10_advance_62 : decode cX10_advance 62 = .ok (.invokestatic 209, 3) := by decide +kernel
theorem dX10_advance_65 : decode cX10_advance 65 = .ok (.ifCond .eq 99, 3) := by decide +kernel
theorem dX10_advance_68 : decode cX10_advance 68 = .ok (.aload_n 0, 1) := by decide +kernel
theorem dX10_advance_69 : decode cX10_advance 69 = .ok (.iconst 1, 1) := by decide +kernel
theorem dX10_advance_70 : decode cX10_advance 70 = .ok (.putfield 206, 3) := by decide +kernel
theorem dX10_advance_73 : decode cX10_advance 73 = .ok (.iload_n 1, 1) := by decide +kernel
theorem dX10_advance_74 : decode cX10_advance 74 = .ok (.aload_n 0, 1) := by decide +kernel
theorem dX10_advance_75 : decode cX10_advance 75 = .ok (.getfield 191, 3) := by decide +kernel
theorem dX10_advance_78 : decode cX10_advance 78 = .ok (.if_icmp .ge 60, 3) := by decide +kernel
theorem dX10_advance_81 : decode cX10_advance 81 = .ok (.aload_n 0, 1) := by decide +kernel
theorem dX10_advance_82 : decode cX10_advance 82 = .ok (.getfield 50, 3) := by decide +kernel
theorem dX10_advance_85 : decode cX10_advance 85 = .ok (.iload_n 1, 1) := by decide +kernel
theorem dX10_advance_86 : decode cX10_advance 86 = .ok (.iaload, 1) := by decide +kernel
theorem dX10_advance_87 : decode cX10_advance 87 = .ok (.invokestatic 209, 3) := by decide +kernel
theorem dX10_advance_90 : decode cX10_advance 90 = .ok (.ifCond .eq 48, 3) := by decide +kernel
theorem dX10_advance_93 : decode cX10_advance 93 = .ok (.aload_n 0, 1) := by decide +kernel
theorem dX10_advance_94 : decode cX10_advance 94 = .ok (.iload_n 1, 1) := by decide +kernel
theorem dX10_advance_95 : decode cX10_advance 95 = .ok (.aload_n 0, 1) := by decide +kernel
theorem dX10_advance_96 : decode cX10_advance 96 = .ok (.getfield 199, 3) := by decide +kernel
theorem dX10_advance_99 : decode cX10_advance 99 = .ok (.isub, 1) := by decide +kernel
theorem dX10_advance_100 : decode cX10_advance 100 = .ok (.bipush 8, 2) := by decide +kernel
theorem dX10_advance_102 : decode cX10_advance 102 = .ok (.if_icmp .ge 26, 3) := by decide +kernel
theorem dX10_advance_105 : decode cX10_advance 105 = .ok (.ldc2_w 212, 3) := by decide +kernel
theorem dX10_advance_108 : decode cX10_advance 108 = .ok (.aload_n 0, 1) := by decide +kernel
theorem dX10_advance_109 : decode cX10_advance 109 = .ok (.getfield 202, 3) := by decide +kernel
theorem dX10_advance_112 : decode cX10_advance 112 = .ok (.lmul, 1) := by decide +kernel
theorem dX10_advance_113 : decode cX10_advance 113 = .ok (.aload_n 0, 1) := by decide +kernel
theorem dX10_advance_114 : decode cX10_advance 114 = .ok (.getfield 50, 3) := by decide +kernel
theorem dX10_advance_117 : decode cX10_advance 117 = .ok (.iload_n 1, 1) := by decide +kernel
theorem dX10_advance_118 : decode cX10_advance 118 = .ok (.iaload, 1) := by decide +kernel
theorem dX10_advance_119 : decode cX10_advance 119 = .ok (.i2l, 1) := by decide +kernel
theorem dX10_advance_120 : decode cX10_advance 120 = .ok (.ladd, 1) := by decide +kernel
theorem dX10_advance_121 : decode cX10_advance 121 = .ok (.ldc2_w 214, 3) := by decide +kernel
theorem dX10_advance_124 : decode cX10_advance 124 = .ok (.lsub, 1) := by decide +kernel
theorem dX10_advance_125 : decode cX10_advance 125 = .ok (.goto 4, 3) := by decide +kernel
theorem dX10_advance_128 : decode cX10_advance 128 = .ok (.lconst 0, 1) := by decide +kernel
theorem dX10_advance_129 : decode cX10_advance 129 = .ok (.putfield 202, 3) := by decide +kernel
theorem dX10_advance_132 : decode cX10_advance 132 = .ok (.iinc 1 1, 3) := by decide +kernel
theorem dX10_advance_135 : decode cX10_advance 135 = .ok (.goto (-62), 3) := by decide +kernel
theorem dX10_advance_138 : decode cX10_advance 138 = .ok (.aload_n 0, 1) := by decide +kernel
theorem dX10_advance_139 : decode cX10_advance 139 = .ok (.iload_n 1, 1) := by decide +kernel
theorem dX10_advance_140 : decode cX10_advance 140 = .ok (.aload_n 0, 1) := by decide +kernel
theorem dX10_advance_141 : decode cX10_advance 141 = .ok (.getfield 199, 3) := by decide +kernel
theorem dX10_advance_144 : decode cX10_advance 144 = .ok (.isub, 1) := by decide +kernel
theorem dX10_advance_145 : decode cX10_advance 145 = .ok (.bipush 8, 2) := by decide +kernel
theorem dX10_advance_147 : decode cX10_advance 147 = .ok (.if_icmp .le 7, 3) := by decide +kernel
theorem dX10_advance_150 : decode cX10_advance 150 = .ok (.lconst 0, 1) := by decide +kernel
theorem dX10_advance_151 : decode cX10_advance 151 = .ok (.goto 7, 3) := by decide +kernel
theorem dX10_advance_154 : decode cX10_advance 154 = .ok (.aload_n 0, 1) := by decide +kernel
theorem dX10_advance_155 : decode cX10_advance 155 = .ok (.getfield 202, 3) := by decide +kernel
theorem dX10_advance_158 : decode cX10_advance 158 = .ok (.putfield 202, 3) := by decide +kernel
theorem dX10_advance_161 : decode cX10_advance 161 = .ok (.goto 106, 3) := by decide +kernel
theorem dX10_advance_164 : decode cX10_advance 164 = .ok (.aload_n 0, 1) := by decide +kernel
theorem dX10_advance_165 : decode cX10_advance 165 = .ok (.getfield 50, 3) := by decide +kernel
theorem dX10_advance_168 : decode cX10_advance 168 = .ok (.iload_n 1, 1) := by decide +kernel
theorem dX10_advance_169 : decode cX10_advance 169 = .ok (.iaload, 1) := by decide +kernel
theorem dX10_advance_170 : decode cX10_advance 170 = .ok (.invokestatic 216, 3) := by decide +kernel
theorem dX10_advance_173 : decode cX10_advance 173 = .ok (.ifCond .eq 75, 3) := by decide +kernel
theorem dX10_advance_176 : decode cX10_advance 176 = .ok (.aload_n 0, 1) := by decide +kernel
theorem dX10_advance_177 : decode cX10_advance 177 = .ok (.iconst 2, 1) := by decide +kernel
theorem dX10_advance_178 : decode cX10_advance 178 = .ok (.putfield 206, 3) := by decide +kernel
theorem dX10_advance_181 : decode cX10_advance 181 = .ok (.iload_n 1, 1) := by decide +kernel
theorem dX10_advance_182 : decode cX10_advance 182 = .ok (.aload_n 0, 1) := by decide +kernel
theorem dX10_advance_183 : decode cX10_advance 183 = .ok (.getfield 191, 3) := by decide +kernel
theorem dX10_advance_186 : decode cX10_advance 186 = .ok (.if_icmp .ge 81, 3) := by decide +kernel
theorem dX10_advance_189 : decode cX10_advance 189 = .ok (.aload_n 0, 1) := by decide +kernel
theorem dX10_advance_190 : decode cX10_advance 190 = .ok (.getfield 50, 3) := by decide +kernel
theorem dX10_advance_193 : decode cX10_advance 193 = .ok (.iload_n 1, 1) := by decide +kernel
theorem dX10_advance_194 : decode cX10_advance 194 = .ok (.iaload, 1) := by decide +kernel
theorem dX10_advance_195 : decode cX10_advance 195 = .ok (.invokestatic 216, 3) := by decide +kernel
theorem dX10_advance_198 : decode cX10_advance 198 = .ok (.ifCond .eq 69, 3) := by decide +kernel
theorem dX10_advance_201 : decode cX10_advance 201 = .ok (.aload_n 0, 1) := by decide +kernel
theorem dX10_advance_202 : decode cX10_advance 202 = .ok (.iload_n 1, 1) := by decide +kernel
theorem dX10_advance_203 : decode cX10_advance 203 = .ok (.aload_n 0, 1) := by decide +kernel
theorem dX10_advance_204 : decode cX10_advance 204 = .ok (.getfield 199, 3) := by decide +kernel
theorem dX10_advance_207 : decode cX10_advance 207 = .ok (.isub, 1) := by decide +kernel
theorem dX10_advance_208 : decode cX10_advance 208 = .ok (.iconst 3, 1) := by decide +kernel
theorem dX10_advance_209 : decode cX10_advance 209 = .ok (.if_icmp .ge 26, 3) := by decide +kernel
theorem dX10_advance_212 : decode cX10_advance 212 = .ok (.ldc2_w 219, 3) := by decide +kernel
theorem dX10_advance_215 : decode cX10_advance 215 = .ok (.aload_n 0, 1) := by decide +kernel
theorem dX10_advance_216 : decode cX10_advance 216 = .ok (.getfield 202, 3) := by decide +kernel
theorem dX10_advance_219 : decode cX10_advance 219 = .ok (.lmul, 1) := by decide +kernel
theorem dX10_advance_220 : decode cX10_advance 220 = .ok (.aload_n 0, 1) := by decide +kernel
theorem dX10_advance_221 : decode cX10_advance 221 = .ok (.getfield 50, 3) := by decide +kernel
theorem dX10_advance_224 : decode cX10_advance 224 = .ok (.iload_n 1, 1) := by decide +kernel
theorem dX10_advance_225 : decode cX10_advance 225 = .ok (.iaload, 1) := by decide +kernel
theorem dX10_advance_226 : decode cX10_advance 226 = .ok (.i2l, 1) := by decide +kernel
theorem dX10_advance_227 : decode cX10_advance 227 = .ok (.ladd, 1) := by decide +kernel
theorem dX10_advance_228 : decode cX10_advance 228 = .ok (.ldc2_w 221, 3) := by decide +kernel
theorem dX10_advance_231 : decode cX10_advance 231 = .ok (.lsub, 1) := by decide +kernel
theorem dX10_advance_232 : decode cX10_advance 232 = .ok (.goto 7, 3) := by decide +kernel
theorem dX10_advance_235 : decode cX10_advance 235 = .ok (.aload_n 0, 1) := by decide +kernel
theorem dX10_advance_236 : decode cX10_advance 236 = .ok (.getfield 202, 3) := by decide +kernel
theorem dX10_advance_239 : decode cX10_advance 239 = .ok (.putfield 202, 3) := by decide +kernel
theorem dX10_advance_242 : decode cX10_advance 242 = .ok (.iinc 1 1, 3) := by decide +kernel
theorem dX10_advance_245 : decode cX10_advance 245 = .ok (.goto (-64), 3) := by decide +kernel
theorem dX10_advance_248 : decode cX10_advance 248 = .ok (.aload_n 0, 1) := by decide +kernel
theorem dX10_advance_249 : decode cX10_advance 249 = .ok (.iconst 3, 1) := by decide +kernel
theorem dX10_advance_250 : decode cX10_advance 250 = .ok (.putfield 206, 3) := by decide +kernel
theorem dX10_advance_253 : decode cX10_advance 253 = .ok (.aload_n 0, 1) := by decide +kernel
theorem dX10_advance_254 : decode cX10_advance 254 = .ok (.aload_n 0, 1) := by decide +kernel
theorem dX10_advance_255 : decode cX10_advance 255 = .ok (.getfield 50, 3) := by decide +kernel
theorem dX10_advance_258 : decode cX10_advance 258 = .ok (.iload_n 1, 1) := by decide +kernel
theorem dX10_advance_259 : decode cX10_advance 259 = .ok (.iaload, 1) := by decide +kernel
theorem dX10_advance_260 : decode cX10_advance 260 = .ok (.i2l, 1) := by decide +kernel
theorem dX10_advance_261 : decode cX10_advance 261 = .ok (.putfield 202, 3) := by decide +kernel
theorem dX10_advance_264 : decode cX10_advance 264 = .ok (.iinc 1 1, 3) := by decide +kernel
theorem dX10_advance_267 : decode cX10_advance 267 = .ok (.aload_n 0, 1) := by decide +kernel
theorem dX10_advance_268 : decode cX10_advance 268 = .ok (.iload_n 1, 1) := by decide +kernel
theorem dX10_advance_269 : decode cX10_advance 269 = .ok (.putfield 196, 3) := by decide +kernel
theorem dX10_advance_272 : decode cX10_advance 272 = .ok (.return_, 1) := by decide +kernel
theorem dX10_isGood_0 : decode cX10_isGood 0 = .ok (.aload_n 0, 1) := by decide +kernel
theorem dX10_isGood_1 : decode cX10_isGood 1 = .ok (.getfield 223, 3) := by decide +kernel
theorem dX10_isGood_4 : decode cX10_isGood 4 = .ok (.ifCond .ge 7, 3) := by decide +kernel
theorem dX10_isGood_7 : decode cX10_isGood 7 = .ok (.iconst 1, 1) := by decide +kernel
theorem dX10_isGood_8 : decode cX10_isGood 8 = .ok (.goto 4, 3) := by decide +kernel
theorem dX10_isGood_11 : decode cX10_isGood 11 = .ok (.iconst 0, 1) := by decide +kernel
theorem dX10_isGood_12 : decode cX10_isGood 12 = .ok (.ireturn, 1) := by decide +kernel
theorem dX10_faulty_0 : decode cX10_faulty 0 = .ok (.aload_n 0, 1) := by decide +kernel
theorem dX10_faulty_1 : decode cX10_faulty 1 = .ok (.aload_n 0, 1) := by decide +kernel
theorem dX10_faulty_2 : decode cX10_faulty 2 = .ok (.getfield 223, 3) := by decide +kernel
theorem dX10_faulty_5 : decode cX10_faulty 5 = .ok (.ifCond .ge 10, 3) := by decide +kernel
theorem dX10_faulty_8 : decode cX10_faulty 8 = .ok (.aload_n 0, 1) := by decide +kernel
theorem dX10_faulty_9 : decode cX10_faulty 9 = .ok (.getfield 199, 3) := by decide +kernel
theorem dX10_faulty_12 : decode cX10_faulty 12 = .ok (.goto 7, 3) := by decide +kernel
theorem dX10_faulty_15 : decode cX10_faulty 15 = .ok (.aload_n 0, 1) := by decide +kernel
theorem dX10_faulty_16 : decode cX10_faulty 16 = .ok (.getfield 223, 3) := by decide +kernel
theorem dX10_faulty_19 : decode cX10_faulty 19 = .ok (.putfield 223, 3) := by decide +kernel
theorem dX10_faulty_22 : decode cX10_faulty 22 = .ok (.return_, 1) := by decide +kernel
theorem dX10_isWord_0 : decode cX10_isWord 0 = .ok (.aload_n 0, 1) := by decide +kernel
theorem dX10_isWord_1 : decode cX10_isWord 1 = .ok (.getfield 206, 3) := by decide +kernel
theorem dX10_isWord_4 : decode cX10_isWord 4 = .ok (.iconst 1, 1) := by decide +kernel
theorem dX10_isWord_5 : decode cX10_isWord 5 = .ok (.if_icmp .ne 16, 3) := by decide +kernel
theorem dX10_isWord_8 : decode cX10_isWord 8 = .ok (.aload_n 0, 1) := by decide +kernel
theorem dX10_isWord_9 : decode cX10_isWord 9 = .ok (.getfield 202, 3) := by decide +kernel
theorem dX10_isWord_12 : decode cX10_isWord 12 = .ok (.lload_n 1, 1) := by decide +kernel
theorem dX10_isWord_13 : decode cX10_isWord 13 = .ok (.lcmp, 1) := by decide +kernel
theorem dX10_isWord_14 : decode cX10_isWord 14 = .ok (.ifCond .ne 7, 3) := by decide +kernel
theorem dX10_isWord_17 : decode cX10_isWord 17 = .ok (.iconst 1, 1) := by decide +kernel
theorem dX10_isWord_18 : decode cX10_isWord 18 = .ok (.goto 4, 3) := by decide +kernel
theorem dX10_isWord_21 : decode cX10_isWord 21 = .ok (.iconst 0, 1) := by decide +kernel
theorem dX10_isWord_22 : decode cX10_isWord 22 = .ok (.ireturn, 1) := by decide +kernel
theorem dX10_isMark_0 : decode cX10_isMark 0 = .ok (.aload_n 0, 1) := by decide +kernel
theorem dX10_isMark_1 : decode cX10_isMark 1 = .ok (.getfield 206, 3) := by decide +kernel
theorem dX10_isMark_4 : decode cX10_isMark 4 = .ok (.iconst 3, 1) := by decide +kernel
theorem dX10_isMark_5 : decode cX10_isMark 5 = .ok (.if_icmp .ne 17, 3) := by decide +kernel
theorem dX10_isMark_8 : decode cX10_isMark 8 = .ok (.aload_n 0, 1) := by decide +kernel
theorem dX10_isMark_9 : decode cX10_isMark 9 = .ok (.getfield 202, 3) := by decide +kernel
theorem dX10_isMark_12 : decode cX10_isMark 12 = .ok (.iload_n 1, 1) := by decide +kernel
theorem dX10_isMark_13 : decode cX10_isMark 13 = .ok (.i2l, 1) := by decide +kernel
theorem dX10_isMark_14 : decode cX10_isMark 14 = .ok (.lcmp, 1) := by decide +kernel
theorem dX10_isMark_15 : decode cX10_isMark 15 = .ok (.ifCond .ne 7, 3) := by decide +kernel
theorem dX10_isMark_18 : decode cX10_isMark 18 = .ok (.iconst 1, 1) := by decide +kernel
theorem dX10_isMark_19 : decode cX10_isMark 19 = .ok (.goto 4, 3) := by decide +kernel
theorem dX10_isMark_22 : decode cX10_isMark 22 = .ok (.iconst 0, 1) := by decide +kernel
theorem dX10_isMark_23 : decode cX10_isMark 23 = .ok (.ireturn, 1) := by decide +kernel
theorem dX10_want_0 : decode cX10_want 0 = .ok (.aload_n 0, 1) := by decide +kernel
theorem dX10_want_1 : decode cX10_want 1 = .ok (.invokevirtual 226, 3) := by decide +kernel
theorem dX10_want_4 : decode cX10_want 4 = .ok (.ifCond .eq 18, 3) := by decide +kernel
theorem dX10_want_7 : decode cX10_want 7 = .ok (.iload_n 1, 1) := by decide +kernel
theorem dX10_want_8 : decode cX10_want 8 = .ok (.ifCond .eq 10, 3) := by decide +kernel
theorem dX10_want_11 : decode cX10_want 11 = .ok (.aload_n 0, 1) := by decide +kernel
theorem dX10_want_12 : decode cX10_want 12 = .ok (.invokevirtual 230, 3) := by decide +kernel
theorem dX10_want_15 : decode cX10_want 15 = .ok (.goto 7, 3) := by decide +kernel
theorem dX10_want_18 : decode cX10_want 18 = .ok (.aload_n 0, 1) := by decide +kernel
theorem dX10_want_19 : decode cX10_want 19 = .ok (.invokevirtual 233, 3) := by decide +kernel
theorem dX10_want_22 : decode cX10_want 22 = .ok (.return_, 1) := by decide +kernel
theorem dX10_wantNumber_0 : decode cX10_wantNumber 0 = .ok (.aload_n 0, 1) := by decide +kernel
theorem dX10_wantNumber_1 : decode cX10_wantNumber 1 = .ok (.getfield 202, 3) := by decide +kernel
theorem dX10_wantNumber_4 : decode cX10_wantNumber 4 = .ok (.l2i, 1) := by decide +kernel
theorem dX10_wantNumber_5 : decode cX10_wantNumber 5 = .ok (.istore_n 2, 1) := by decide +kernel
theorem dX10_wantNumber_6 : decode cX10_wantNumber 6 = .ok (.aload_n 0, 1) := by decide +kernel
theorem dX10_wantNumber_7 : decode cX10_wantNumber 7 = .ok (.aload_n 0, 1) := by decide +kernel
theorem dX10_wantNumber_8 : decode cX10_wantNumber 8 = .ok (.getfield 206, 3) := by decide +kernel
theorem dX10_wantNumber_11 : decode cX10_wantNumber 11 = .ok (.iconst 2, 1) := by decide +kernel
theorem dX10_wantNumber_12 : decode cX10_wantNumber 12 = .ok (.if_icmp .ne 25, 3) := by decide +kernel
theorem dX10_wantNumber_15 : decode cX10_wantNumber 15 = .ok (.aload_n 0, 1) := by decide +kernel
theorem dX10_wantNumber_16 : decode cX10_wantNumber 16 = .ok (.getfield 196, 3) := by decide +kernel
theorem dX10_wantNumber_19 : decode cX10_wantNumber 19 = .ok (.aload_n 0, 1) := by decide +kernel
theorem dX10_wantNumber_20 : decode cX10_wantNumber 20 = .ok (.getfield 199, 3) := by decide +kernel
theorem dX10_wantNumber_23 : decode cX10_wantNumber 23 = .ok (.isub, 1) := by decide +kernel
theorem dX10_wantNumber_24 : decode cX10_wantNumber 24 = .ok (.iconst 3, 1) := by decide +kernel
theorem dX10_wantNumber_25 : decode cX10_wantNumber 25 = .ok (.if_icmp .gt 12, 3) := by decide +kernel
theorem dX10_wantNumber_28 : decode cX10_wantNumber 28 = .ok (.iload_n 2, 1) := by decide +kernel
theorem dX10_wantNumber_29 : decode cX10_wantNumber 29 = .ok (.iload_n 1, 1) := by decide +kernel
theorem dX10_wantNumber_30 : decode cX10_wantNumber 30 = .ok (.if_icmp .gt 7, 3) := by decide +kernel
theorem dX10_wantNumber_33 : decode cX10_wantNumber 33 = .ok (.iconst 1, 1) := by decide +kernel
theorem dX10_wantNumber_34 : decode cX10_wantNumber 34 = .ok (.goto 4, 3) := by decide +kernel
theorem dX10_wantNumber_37 : decode cX10_wantNumber 37 = .ok (.iconst 0, 1) := by decide +kernel
theorem dX10_wantNumber_38 : decode cX10_wantNumber 38 = .ok (.invokevirtual 236, 3) := by decide +kernel
theorem dX10_wantNumber_41 : decode cX10_wantNumber 41 = .ok (.iload_n 2, 1) := by decide +kernel
theorem dX10_wantNumber_42 : decode cX10_wantNumber 42 = .ok (.ireturn, 1) := by decide +kernel
theorem dX10_emit_0 : decode cX10_emit 0 = .ok (.aload_n 0, 1) := by decide +kernel
theorem dX10_emit_1 : decode cX10_emit 1 = .ok (.getfield 53, 3) := by decide +kernel
theorem dX10_emit_4 : decode cX10_emit 4 = .ok (.aload_n 0, 1) := by decide +kernel
theorem dX10_emit_5 : decode cX10_emit 5 = .ok (.getfield 240, 3) := by decide +kernel
theorem dX10_emit_8 : decode cX10_emit 8 = .ok (.iload_n 1, 1) := by decide +kernel
theorem dX10_emit_9 : decode cX10_emit 9 = .ok (.iastore, 1) := by decide +kernel
theorem dX10_emit_10 : decode cX10_emit 10 = .ok (.aload_n 0, 1) := by decide +kernel
theorem dX10_emit_11 : decode cX10_emit 11 = .ok (.dup, 1) := by decide +kernel
theorem dX10_emit_12 : decode cX10_emit 12 = .ok (.getfield 240, 3) := by decide +kernel
theorem dX10_emit_15 : decode cX10_emit 15 = .ok (.iconst 1, 1) := by decide +kernel
theorem dX10_emit_16 : decode cX10_emit 16 = .ok (.iadd, 1) := by decide +kernel
theorem dX10_emit_17 : decode cX10_emit 17 = .ok (.putfield 240, 3) := by decide +kernel
theorem dX10_emit_20 : decode cX10_emit 20 = .ok (.return_, 1) := by decide +kernel
theorem dX10_settle_0 : decode cX10_settle 0 = .ok (.aload_n 0, 1) := by decide +kernel
theorem dX10_settle_1 : decode cX10_settle 1 = .ok (.getfield 243, 3) := by decide +kernel
theorem dX10_settle_4 : decode cX10_settle 4 = .ok (.ifCond .le 60, 3) := by decide +kernel
theorem dX10_settle_7 : decode cX10_settle 7 = .ok (.aload_n 0, 1) := by decide +kernel
theorem dX10_settle_8 : decode cX10_settle 8 = .ok (.getfield 56, 3) := by decide +kernel
theorem dX10_settle_11 : decode cX10_settle 11 = .ok (.aload_n 0, 1) := by decide +kernel
theorem dX10_settle_12 : decode cX10_settle 12 = .ok (.getfield 243, 3) := by decide +kernel
theorem dX10_settle_15 : decode cX10_settle 15 = .ok (.iconst 1, 1) := by decide +kernel
theorem dX10_settle_16 : decode cX10_settle 16 = .ok (.isub, 1) := by decide +kernel
theorem dX10_settle_17 : decode cX10_settle 17 = .ok (.iaload, 1) := by decide +kernel
theorem dX10_settle_18 : decode cX10_settle 18 = .ok (.bipush 10, 2) := by decide +kernel
theorem dX10_settle_20 : decode cX10_settle 20 = .ok (.if_icmp .eq 44, 3) := by decide +kernel
theorem dX10_settle_23 : decode cX10_settle 23 = .ok (.aload_n 0, 1) := by decide +kernel
theorem dX10_settle_24 : decode cX10_settle 24 = .ok (.getfield 56, 3) := by decide +kernel
theorem dX10_settle_27 : decode cX10_settle 27 = .ok (.aload_n 0, 1) := by decide +kernel
theorem dX10_settle_28 : decode cX10_settle 28 = .ok (.getfield 243, 3) := by decide +kernel
theorem dX10_settle_31 : decode cX10_settle 31 = .ok (.iconst 1, 1) := by decide +kernel
theorem dX10_settle_32 : decode cX10_settle 32 = .ok (.isub, 1) := by decide +kernel
theorem dX10_settle_33 : decode cX10_settle 33 = .ok (.iaload, 1) := by decide +kernel
theorem dX10_settle_34 : decode cX10_settle 34 = .ok (.iload_n 1, 1) := by decide +kernel
theorem dX10_settle_35 : decode cX10_settle 35 = .ok (.if_icmp .gt 29, 3) := by decide +kernel
theorem dX10_settle_38 : decode cX10_settle 38 = .ok (.aload_n 0, 1) := by decide +kernel
theorem dX10_settle_39 : decode cX10_settle 39 = .ok (.dup, 1) := by decide +kernel
theorem dX10_settle_40 : decode cX10_settle 40 = .ok (.getfield 243, 3) := by decide +kernel
theorem dX10_settle_43 : decode cX10_settle 43 = .ok (.iconst 1, 1) := by decide +kernel
theorem dX10_settle_44 : decode cX10_settle 44 = .ok (.isub, 1) := by decide +kernel
theorem dX10_settle_45 : decode cX10_settle 45 = .ok (.putfield 243, 3) := by decide +kernel
theorem dX10_settle_48 : decode cX10_settle 48 = .ok (.aload_n 0, 1) := by decide +kernel
theorem dX10_settle_49 : decode cX10_settle 49 = .ok (.aload_n 0, 1) := by decide +kernel
theorem dX10_settle_50 : decode cX10_settle 50 = .ok (.getfield 56, 3) := by decide +kernel
theorem dX10_settle_53 : decode cX10_settle 53 = .ok (.aload_n 0, 1) := by decide +kernel
theorem dX10_settle_54 : decode cX10_settle 54 = .ok (.getfield 243, 3) := by decide +kernel
theorem dX10_settle_57 : decode cX10_settle 57 = .ok (.iaload, 1) := by decide +kernel
theorem dX10_settle_58 : decode cX10_settle 58 = .ok (.invokevirtual 246, 3) := by decide +kernel
theorem dX10_settle_61 : decode cX10_settle 61 = .ok (.goto (-61), 3) := by decide +kernel
theorem dX10_settle_64 : decode cX10_settle 64 = .ok (.return_, 1) := by decide +kernel
theorem dX10_hold_0 : decode cX10_hold 0 = .ok (.aload_n 0, 1) := by decide +kernel
theorem dX10_hold_1 : decode cX10_hold 1 = .ok (.getfield 56, 3) := by decide +kernel
theorem dX10_hold_4 : decode cX10_hold 4 = .ok (.aload_n 0, 1) := by decide +kernel
theorem dX10_hold_5 : decode cX10_hold 5 = .ok (.getfield 243, 3) := by decide +kernel
theorem dX10_hold_8 : decode cX10_hold 8 = .ok (.iload_n 1, 1) := by decide +kernel
theorem dX10_hold_9 : decode cX10_hold 9 = .ok (.iastore, 1) := by decide +kernel
theorem dX10_hold_10 : decode cX10_hold 10 = .ok (.aload_n 0, 1) := by decide +kernel
theorem dX10_hold_11 : decode cX10_hold 11 = .ok (.dup, 1) := by decide +kernel
theorem dX10_hold_12 : decode cX10_hold 12 = .ok (.getfield 243, 3) := by decide +kernel
theorem dX10_hold_15 : decode cX10_hold 15 = .ok (.iconst 1, 1) := by decide +kernel
theorem dX10_hold_16 : decode cX10_hold 16 = .ok (.iadd, 1) := by decide +kernel
theorem dX10_hold_17 : decode cX10_hold 17 = .ok (.putfield 243, 3) := by decide +kernel
theorem dX10_hold_20 : decode cX10_hold 20 = .ok (.aload_n 0, 1) := by decide +kernel
theorem dX10_hold_21 : decode cX10_hold 21 = .ok (.invokevirtual 230, 3) := by decide +kernel
theorem dX10_hold_24 : decode cX10_hold 24 = .ok (.return_, 1) := by decide +kernel
theorem dX10_wantValue_0 : decode cX10_wantValue 0 = .ok (.aload_n 0, 1) := by decide +kernel
theorem dX10_wantValue_1 : decode cX10_wantValue 1 = .ok (.ldc2_w 249, 3) := by decide +kernel
theorem dX10_wantValue_4 : decode cX10_wantValue 4 = .ok (.invokevirtual 251, 3) := by decide +kernel
theorem dX10_wantValue_7 : decode cX10_wantValue 7 = .ok (.ifCond .ne 13, 3) := by decide +kernel
theorem dX10_wantValue_10 : decode cX10_wantValue 10 = .ok (.aload_n 0, 1) := by decide +kernel
theorem dX10_wantValue_11 : decode cX10_wantValue 11 = .ok (.ldc2_w 255, 3) := by decide +kernel
theorem dX10_wantValue_14 : decode cX10_wantValue 14 = .ok (.invokevirtual 251, 3) := by decide +kernel
theorem dX10_wantValue_17 : decode cX10_wantValue 17 = .ok (.ifCond .eq 52, 3) := by decide +kernel
theorem dX10_wantValue_20 : decode cX10_wantValue 20 = .ok (.aload_n 0, 1) := by decide +kernel
theorem dX10_wantValue_21 : decode cX10_wantValue 21 = .ok (.ldc2_w 249, 3) := by decide +kernel
theorem dX10_wantValue_24 : decode cX10_wantValue 24 = .ok (.invokevirtual 251, 3) := by decide +kernel
theorem dX10_wantValue_27 : decode cX10_wantValue 27 = .ok (.istore_n 1, 1) := by decide +kernel
theorem dX10_wantValue_28 : decode cX10_wantValue 28 = .ok (.aload_n 0, 1) := by decide +kernel
theorem dX10_wantValue_29 : decode cX10_wantValue 29 = .ok (.invokevirtual 230, 3) := by decide +kernel
theorem dX10_wantValue_32 : decode cX10_wantValue 32 = .ok (.aload_n 0, 1) := by decide +kernel
theorem dX10_wantValue_33 : decode cX10_wantValue 33 = .ok (.iload_n 1, 1) := by decide +kernel
theorem dX10_wantValue_34 : decode cX10_wantValue 34 = .ok (.ifCond .eq 7, 3) := by decide +kernel
theorem dX10_wantValue_37 : decode cX10_wantValue 37 = .ok (.iconst 4, 1) := by decide +kernel
theorem dX10_wantValue_38 : decode cX10_wantValue 38 = .ok (.goto 5, 3) := by decide +kernel
theorem dX10_wantValue_41 : decode cX10_wantValue 41 = .ok (.bipush 9, 2) := by decide +kernel
theorem dX10_wantValue_43 : decode cX10_wantValue 43 = .ok (.invokevirtual 257, 3) := by decide +kernel
theorem dX10_wantValue_46 : decode cX10_wantValue 46 = .ok (.istore_n 2, 1) := by decide +kernel
theorem dX10_wantValue_47 : decode cX10_wantValue 47 = .ok (.aload_n 0, 1) := by decide +kernel
theorem dX10_wantValue_48 : decode cX10_wantValue 48 = .ok (.iload_n 1, 1) := by decide +kernel
theorem dX10_wantValue_49 : decode cX10_wantValue 49 = .ok (.ifCond .eq 9, 3) := by decide +kernel
theorem dX10_wantValue_52 : decode cX10_wantValue 52 = .ok (.sipush 200, 3) := by decide +kernel
theorem dX10_wantValue_55 : decode cX10_wantValue 55 = .ok (.goto 6, 3) := by decide +kernel
theorem dX10_wantValue_58 : decode cX10_wantValue 58 = .ok (.sipush 300, 3) := by decide +kernel
theorem dX10_wantValue_61 : decode cX10_wantValue 61 = .ok (.iload_n 2, 1) := by decide +kernel
theorem dX10_wantValue_62 : decode cX10_wantValue 62 = .ok (.iadd, 1) := by decide +kernel
theorem dX10_wantValue_63 : decode cX10_wantValue 63 = .ok (.invokevirtual 246, 3) := by decide +kernel
theorem dX10_wantValue_66 : decode cX10_wantValue 66 = .ok (.goto 96, 3) := by decide +kernel
theorem dX10_wantValue_69 : decode cX10_wantValue 69 = .ok (.aload_n 0, 1) := by decide +kernel
theorem dX10_wantValue_70 : decode cX10_wantValue 70 = .ok (.ldc2_w 261, 3) := by decide +kernel
theorem dX10_wantValue_73 : decode cX10_wantValue 73 = .ok (.invokevirtual 251, 3) := by decide +kernel
theorem dX10_wantValue_76 : decode cX10_wantValue 76 = .ok (.ifCond .ne 23, 3) := by decide +kernel
theorem dX10_wantValue_79 : decode cX10_wantValue 79 = .ok (.aload_n 0, 1) := by decide +kernel
theorem dX10_wantValue_80 : decode cX10_wantValue 80 = .ok (.ldc2_w 263, 3) := by decide +kernel
theorem dX10_wantValue_83 : decode cX10_wantValue 83 = .ok (.invokevirtual 251, 3) := by decide +kernel
theorem dX10_wantValue_86 : decode cX10_wantValue 86 = .ok (.ifCond .ne 13, 3) := by decide +kernel
theorem dX10_wantValue_89 : decode cX10_wantValue 89 = .ok (.aload_n 0, 1) := by decide +kernel
theorem dX10_wantValue_90 : decode cX10_wantValue 90 = .ok (.ldc2_w 265, 3) := by decide +kernel
theorem dX10_wantValue_93 : decode cX10_wantValue 93 = .ok (.invokevirtual 251, 3) := by decide +kernel
theorem dX10_wantValue_96 : decode cX10_wantValue 96 = .ok (.ifCond .eq 49, 3) := by decide +kernel
theorem dX10_wantValue_99 : decode cX10_wantValue 99 = .ok (.aload_n 0, 1) := by decide +kernel
theorem dX10_wantValue_100 : decode cX10_wantValue 100 = .ok (.aload_n 0, 1) := by decide +kernel
theorem dX10_wantValue_101 : decode cX10_wantValue 101 = .ok (.ldc2_w 261, 3) := by decide +kernel
theorem dX10_wantValue_104 : decode cX10_wantValue 104 = .ok (.invokevirtual 251, 3) := by decide +kernel
theorem dX10_wantValue_107 : decode cX10_wantValue 107 = .ok (.ifCond .eq 9, 3) := by decide +kernel
theorem dX10_wantValue_110 : decode cX10_wantValue 110 = .ok (.sipush 400, 3) := by decide +kernel
theorem dX10_wantValue_113 : decode cX10_wantValue 113 = .ok (.goto 22, 3) := by decide +kernel
theorem dX10_wantValue_116 : decode cX10_wantValue 116 = .ok (.aload_n 0, 1) := by decide +kernel
theorem dX10_wantValue_117 : decode cX10_wantValue 117 = .ok (.ldc2_w 263, 3) := by decide +kernel
theorem dX10_wantValue_120 : decode cX10_wantValue 120 = .ok (.invokevirtual 251, 3) := by decide +kernel
theorem dX10_wantValue_123 : decode cX10_wantValue 123 = .ok (.ifCond .eq 9, 3) := by decide +kernel
theorem dX10_wantValue_126 : decode cX10_wantValue 126 = .ok (.sipush 401, 3) := by decide +kernel
theorem dX10_wantValue_129 : decode cX10_wantValue 129 = .ok (.goto 6, 3) := by decide +kernel
theorem dX10_wantValue_132 : decode cX10_wantValue 132 = .ok (.sipush 402, 3) := by decide +kernel
theorem dX10_wantValue_135 : decode cX10_wantValue 135 = .ok (.invokevirtual 246, 3) := by decide +kernel
theorem dX10_wantValue_138 : decode cX10_wantValue 138 = .ok (.aload_n 0, 1) := by decide +kernel
theorem dX10_wantValue_139 : decode cX10_wantValue 139 = .ok (.invokevirtual 230, 3) := by decide +kernel
theorem dX10_wantValue_142 : decode cX10_wantValue 142 = .ok (.goto 20, 3) := by decide +kernel
theorem dX10_wantValue_145 : decode cX10_wantValue 145 = .ok (.aload_n 0, 1) := by decide +kernel
theorem dX10_wantValue_146 : decode cX10_wantValue 146 = .ok (.sipush 999, 3) := by decide +kernel
theorem dX10_wantValue_149 : decode cX10_wantValue 149 = .ok (.invokevirtual 257, 3) := by decide +kernel
theorem dX10_wantValue_152 : decode cX10_wantValue 152 = .ok (.istore_n 1, 1) := by decide +kernel
theorem dX10_wantValue_153 : decode cX10_wantValue 153 = .ok (.aload_n 0, 1) := by decide +kernel
theorem dX10_wantValue_154 : decode cX10_wantValue 154 = .ok (.sipush 1000, 3) := by decide +kernel
theorem dX10_wantValue_157 : decode cX10_wantValue 157 = .ok (.iload_n 1, 1) := by decide +kernel
theorem dX10_wantValue_158 : decode cX10_wantValue 158 = .ok (.iadd, 1) := by decide +kernel
theorem dX10_wantValue_159 : decode cX10_wantValue 159 = .ok (.invokevirtual 246, 3) := by decide +kernel
theorem dX10_wantValue_162 : decode cX10_wantValue 162 = .ok (.return_, 1) := by decide +kernel
theorem dX10_wantSum_0 : decode cX10_wantSum 0 = .ok (.aload_n 0, 1) := by decide +kernel
theorem dX10_wantSum_1 : decode cX10_wantSum 1 = .ok (.invokevirtual 267, 3) := by decide +kernel
theorem dX10_wantSum_4 : decode cX10_wantSum 4 = .ok (.aload_n 0, 1) := by decide +kernel
theorem dX10_wantSum_5 : decode cX10_wantSum 5 = .ok (.invokevirtual 226, 3) := by decide +kernel
theorem dX10_wantSum_8 : decode cX10_wantSum 8 = .ok (.ifCond .eq 29, 3) := by decide +kernel
theorem dX10_wantSum_11 : decode cX10_wantSum 11 = .ok (.aload_n 0, 1) := by decide +kernel
theorem dX10_wantSum_12 : decode cX10_wantSum 12 = .ok (.bipush 43, 2) := by decide +kernel
theorem dX10_wantSum_14 : decode cX10_wantSum 14 = .ok (.invokevirtual 270, 3) := by decide +kernel
theorem dX10_wantSum_17 : decode cX10_wantSum 17 = .ok (.ifCond .eq 20, 3) := by decide +kernel
theorem dX10_wantSum_20 : decode cX10_wantSum 20 = .ok (.aload_n 0, 1) := by decide +kernel
theorem dX10_wantSum_21 : decode cX10_wantSum 21 = .ok (.invokevirtual 230, 3) := by decide +kernel
theorem dX10_wantSum_24 : decode cX10_wantSum 24 = .ok (.aload_n 0, 1) := by decide +kernel
theorem dX10_wantSum_25 : decode cX10_wantSum 25 = .ok (.invokevirtual 267, 3) := by decide +kernel
theorem dX10_wantSum_28 : decode cX10_wantSum 28 = .ok (.aload_n 0, 1) := by decide +kernel
theorem dX10_wantSum_29 : decode cX10_wantSum 29 = .ok (.bipush 14, 2) := by decide +kernel
theorem dX10_wantSum_31 : decode cX10_wantSum 31 = .ok (.invokevirtual 246, 3) := by decide +kernel
theorem dX10_wantSum_34 : decode cX10_wantSum 34 = .ok (.goto (-30), 3) := by decide +kernel
theorem dX10_wantSum_37 : decode cX10_wantSum 37 = .ok (.return_, 1) := by decide +kernel
theorem dX10_wantAsk_0 : decode cX10_wantAsk 0 = .ok (.aload_n 0, 1) := by decide +kernel
theorem dX10_wantAsk_1 : decode cX10_wantAsk 1 = .ok (.invokevirtual 273, 3) := by decide +kernel
theorem dX10_wantAsk_4 : decode cX10_wantAsk 4 = .ok (.aload_n 0, 1) := by decide +kernel
theorem dX10_wantAsk_5 : decode cX10_wantAsk 5 = .ok (.bipush 60, 2) := by decide +kernel
theorem dX10_wantAsk_7 : decode cX10_wantAsk 7 = .ok (.invokevirtual 270, 3) := by decide +kernel
theorem dX10_wantAsk_10 : decode cX10_wantAsk 10 = .ok (.ifCond .eq 8, 3) := by decide +kernel
theorem dX10_wantAsk_13 : decode cX10_wantAsk 13 = .ok (.bipush 15, 2) := by decide +kernel
theorem dX10_wantAsk_15 : decode cX10_wantAsk 15 = .ok (.goto 32, 3) := by decide +kernel
theorem dX10_wantAsk_18 : decode cX10_wantAsk 18 = .ok (.aload_n 0, 1) := by decide +kernel
theorem dX10_wantAsk_19 : decode cX10_wantAsk 19 = .ok (.bipush 61, 2) := by decide +kernel
theorem dX10_wantAsk_21 : decode cX10_wantAsk 21 = .ok (.invokevirtual 270, 3) := by decide +kernel
theorem dX10_wantAsk_24 : decode cX10_wantAsk 24 = .ok (.ifCond .eq 8, 3) := by decide +kernel
theorem dX10_wantAsk_27 : decode cX10_wantAsk 27 = .ok (.bipush 16, 2) := by decide +kernel
theorem dX10_wantAsk_29 : decode cX10_wantAsk 29 = .ok (.goto 18, 3) := by decide +kernel
theorem dX10_wantAsk_32 : decode cX10_wantAsk 32 = .ok (.aload_n 0, 1) := by decide +kernel
theorem dX10_wantAsk_33 : decode cX10_wantAsk 33 = .ok (.bipush 62, 2) := by decide +kernel
theorem dX10_wantAsk_35 : decode cX10_wantAsk 35 = .ok (.invokevirtual 270, 3) := by decide +kernel
theorem dX10_wantAsk_38 : decode cX10_wantAsk 38 = .ok (.ifCond .eq 8, 3) := by decide +kernel
theorem dX10_wantAsk_41 : decode cX10_wantAsk 41 = .ok (.bipush 17, 2) := by decide +kernel
theorem dX10_wantAsk_43 : decode cX10_wantAsk 43 = .ok (.goto 4, 3) := by decide +kernel
theorem dX10_wantAsk_46 : decode cX10_wantAsk 46 = .ok (.iconst 0, 1) := by decide +kernel
theorem dX10_wantAsk_47 : decode cX10_wantAsk 47 = .ok (.istore_n 1, 1) := by decide +kernel
theorem dX10_wantAsk_48 : decode cX10_wantAsk 48 = .ok (.aload_n 0, 1) := by decide +kernel
theorem dX10_wantAsk_49 : decode cX10_wantAsk 49 = .ok (.iload_n 1, 1) := by decide +kernel
theorem dX10_wantAsk_50 : decode cX10_wantAsk 50 = .ok (.ifCond .le 7, 3) := by decide +kernel
theorem dX10_wantAsk_53 : decode cX10_wantAsk 53 = .ok (.iconst 1, 1) := by decide +kernel
theorem dX10_wantAsk_54 : decode cX10_wantAsk 54 = .ok (.goto 4, 3) := by decide +kernel
theorem dX10_wantAsk_57 : decode cX10_wantAsk 57 = .ok (.iconst 0, 1) := by decide +kernel
theorem dX10_wantAsk_58 : decode cX10_wantAsk 58 = .ok (.invokevirtual 236, 3) := by decide +kernel
theorem dX10_wantAsk_61 : decode cX10_wantAsk 61 = .ok (.aload_n 0, 1) := by decide +kernel
theorem dX10_wantAsk_62 : decode cX10_wantAsk 62 = .ok (.invokevirtual 226, 3) := by decide +kernel
theorem dX10_wantAsk_65 : decode cX10_wantAsk 65 = .ok (.ifCond .eq 12, 3) := by decide +kernel
theorem dX10_wantAsk_68 : decode cX10_wantAsk 68 = .ok (.aload_n 0, 1) := by decide +kernel
theorem dX10_wantAsk_69 : decode cX10_wantAsk 69 = .ok (.invokevirtual 273, 3) := by decide +kernel
theorem dX10_wantAsk_72 : decode cX10_wantAsk 72 = .ok (.aload_n 0, 1) := by decide +kernel
theorem dX10_wantAsk_73 : decode cX10_wantAsk 73 = .ok (.iload_n 1, 1) := by decide +kernel
theorem dX10_wantAsk_74 : decode cX10_wantAsk 74 = .ok (.invokevirtual 246, 3) := by decide +kernel
theorem dX10_wantAsk_77 : decode cX10_wantAsk 77 = .ok (.return_, 1) := by decide +kernel
theorem dX10_wantCond_0 : decode cX10_wantCond 0 = .ok (.iconst 0, 1) := by decide +kernel
theorem dX10_wantCond_1 : decode cX10_wantCond 1 = .ok (.istore_n 1, 1) := by decide +kernel
theorem dX10_wantCond_2 : decode cX10_wantCond 2 = .ok (.iconst 1, 1) := by decide +kernel
theorem dX10_wantCond_3 : decode cX10_wantCond 3 = .ok (.istore_n 2, 1) := by decide +kernel
theorem dX10_wantCond_4 : decode cX10_wantCond 4 = .ok (.iconst 1, 1) := by decide +kernel
theorem dX10_wantCond_5 : decode cX10_wantCond 5 = .ok (.istore_n 3, 1) := by decide +kernel
theorem dX10_wantCond_6 : decode cX10_wantCond 6 = .ok (.aload_n 0, 1) := by decide +kernel
theorem dX10_wantCond_7 : decode cX10_wantCond 7 = .ok (.iconst 0, 1) := by decide +kernel
theorem dX10_wantCond_8 : decode cX10_wantCond 8 = .ok (.putfield 243, 3) := by decide +kernel
theorem dX10_wantCond_11 : decode cX10_wantCond 11 = .ok (.iload_n 3, 1) := by decide +kernel
theorem dX10_wantCond_12 : decode cX10_wantCond 12 = .ok (.ifCond .eq 184, 3) := by decide +kernel
theorem dX10_wantCond_15 : decode cX10_wantCond 15 = .ok (.aload_n 0, 1) := by decide +kernel
theorem dX10_wantCond_16 : decode cX10_wantCond 16 = .ok (.invokevirtual 226, 3) := by decide +kernel
theorem dX10_wantCond_19 : decode cX10_wantCond 19 = .ok (.ifCond .eq 177, 3) := by decide +kernel
theorem dX10_wantCond_22 : decode cX10_wantCond 22 = .ok (.iload_n 2, 1) := by decide +kernel
theorem dX10_wantCond_23 : decode cX10_wantCond 23 = .ok (.ifCond .eq 70, 3) := by decide +kernel
theorem dX10_wantCond_26 : decode cX10_wantCond 26 = .ok (.aload_n 0, 1) := by decide +kernel
theorem dX10_wantCond_27 : decode cX10_wantCond 27 = .ok (.ldc2_w 276, 3) := by decide +kernel
theorem dX10_wantCond_30 : decode cX10_wantCond 30 = .ok (.invokevirtual 251, 3) := by decide +kernel
theorem dX10_wantCond_33 : decode cX10_wantCond 33 = .ok (.ifCond .eq 12, 3) := by decide +kernel
theorem dX10_wantCond_36 : decode cX10_wantCond 36 = .ok (.aload_n 0, 1) := by decide +kernel
theorem dX10_wantCond_37 : decode cX10_wantCond 37 = .ok (.bipush 7, 2) := by decide +kernel
theorem dX10_wantCond_39 : decode cX10_wantCond 39 = .ok (.invokevirtual 278, 3) := by decide +kernel
theorem dX10_wantCond_42 : decode cX10_wantCond 42 = .ok (.goto (-31), 3) := by decide +kernel
theorem dX10_wantCond_45 : decode cX10_wantCond 45 = .ok (.aload_n 0, 1) := by decide +kernel
theorem dX10_wantCond_46 : decode cX10_wantCond 46 = .ok (.bipush 40, 2) := by decide +kernel
theorem dX10_wantCond_48 : decode cX10_wantCond 48 = .ok (.invokevirtual 270, 3) := by decide +kernel
theorem dX10_wantCond_51 : decode cX10_wantCond 51 = .ok (.ifCond .eq 27, 3) := by decide +kernel
theorem dX10_wantCond_54 : decode cX10_wantCond 54 = .ok (.iload_n 1, 1) := by decide +kernel
theorem dX10_wantCond_55 : decode cX10_wantCond 55 = .ok (.iconst 4, 1) := by decide +kernel
theorem dX10_wantCond_56 : decode cX10_wantCond 56 = .ok (.if_icmp .ne 10, 3) := by decide +kernel
theorem dX10_wantCond_59 : decode cX10_wantCond 59 = .ok (.aload_n 0, 1) := by decide +kernel
theorem dX10_wantCond_60 : decode cX10_wantCond 60 = .ok (.invokevirtual 233, 3) := by decide +kernel
theorem dX10_wantCond_63 : decode cX10_wantCond 63 = .ok (.goto (-52), 3) := by decide +kernel
theorem dX10_wantCond_66 : decode cX10_wantCond 66 = .ok (.aload_n 0, 1) := by decide +kernel
theorem dX10_wantCond_67 : decode cX10_wantCond 67 = .ok (.bipush 10, 2) := by decide +kernel
theorem dX10_wantCond_69 : decode cX10_wantCond 69 = .ok (.invokevirtual 278, 3) := by decide +kernel
theorem dX10_wantCond_72 : decode cX10_wantCond 72 = .ok (.iinc 1 1, 3) := by decide +kernel
theorem dX10_wantCond_75 : decode cX10_wantCond 75 = .ok (.goto (-64), 3) := by decide +kernel
theorem dX10_wantCond_78 : decode cX10_wantCond 78 = .ok (.aload_n 0, 1) := by decide +kernel
theorem dX10_wantCond_79 : decode cX10_wantCond 79 = .ok (.invokevirtual 281, 3) := by decide +kernel
theorem dX10_wantCond_82 : decode cX10_wantCond 82 = .ok (.aload_n 0, 1) := by decide +kernel
theorem dX10_wantCond_83 : decode cX10_wantCond 83 = .ok (.bipush 7, 2) := by decide +kernel
theorem dX10_wantCond_85 : decode cX10_wantCond 85 = .ok (.invokevirtual 284, 3) := by decide +kernel
theorem dX10_wantCond_88 : decode cX10_wantCond 88 = .ok (.iconst 0, 1) := by decide +kernel
theorem dX10_wantCond_89 : decode cX10_wantCond 89 = .ok (.istore_n 2, 1) := by decide +kernel
theorem dX10_wantCond_90 : decode cX10_wantCond 90 = .ok (.goto (-79), 3) := by decide +kernel
theorem dX10_wantCond_93 : decode cX10_wantCond 93 = .ok (.aload_n 0, 1) := by decide +kernel
theorem dX10_wantCond_94 : decode cX10_wantCond 94 = .ok (.ldc2_w 287, 3) := by decide +kernel
theorem dX10_wantCond_97 : decode cX10_wantCond 97 = .ok (.invokevirtual 251, 3) := by decide +kernel
theorem dX10_wantCond_100 : decode cX10_wantCond 100 = .ok (.ifCond .ne 13, 3) := by decide +kernel
theorem dX10_wantCond_103 : decode cX10_wantCond 103 = .ok (.aload_n 0, 1) := by decide +kernel
theorem dX10_wantCond_104 : decode cX10_wantCond 104 = .ok (.ldc2_w 289, 3) := by decide +kernel
theorem dX10_wantCond_107 : decode cX10_wantCond 107 = .ok (.invokevirtual 251, 3) := by decide +kernel
theorem dX10_wantCond_110 : decode cX10_wantCond 110 = .ok (.ifCond .eq 39, 3) := by decide +kernel
theorem dX10_wantCond_113 : decode cX10_wantCond 113 = .ok (.aload_n 0, 1) := by decide +kernel
theorem dX10_wantCond_114 : decode cX10_wantCond 114 = .ok (.ldc2_w 287, 3) := by decide +kernel
theorem dX10_wantCond_117 : decode cX10_wantCond 117 = .ok (.invokevirtual 251, 3) := by decide +kernel
theorem dX10_wantCond_120 : decode cX10_wantCond 120 = .ok (.ifCond .eq 8, 3) := by decide +kernel
theorem dX10_wantCond_123 : decode cX10_wantCond 123 = .ok (.bipush 8, 2) := by decide +kernel
theorem dX10_wantCond_125 : decode cX10_wantCond 125 = .ok (.goto 5, 3) := by decide +kernel
theorem dX10_wantCond_128 : decode cX10_wantCond 128 = .ok (.bipush 9, 2) := by decide +kernel
theorem dX10_wantCond_130 : decode cX10_wantCond 130 = .ok (.istore 4, 2) := by decide +kernel
theorem dX10_wantCond_132 : decode cX10_wantCond 132 = .ok (.aload_n 0, 1) := by decide +kernel
theorem dX10_wantCond_133 : decode cX10_wantCond 133 = .ok (.iload 4, 2) := by decide +kernel
theorem dX10_wantCond_135 : decode cX10_wantCond 135 = .ok (.invokevirtual 284, 3) := by decide +kernel
theorem dX10_wantCond_138 : decode cX10_wantCond 138 = .ok (.aload_n 0, 1) := by decide +kernel
theorem dX10_wantCond_139 : decode cX10_wantCond 139 = .ok (.iload 4, 2) := by decide +kernel
theorem dX10_wantCond_141 : decode cX10_wantCond 141 = .ok (.invokevirtual 278, 3) := by decide +kernel
theorem dX10_wantCond_144 : decode cX10_wantCond 144 = .ok (.iconst 1, 1) := by decide +kernel
theorem dX10_wantCond_145 : decode cX10_wantCond 145 = .ok (.istore_n 2, 1) := by decide +kernel
theorem dX10_wantCond_146 : decode cX10_wantCond 146 = .ok (.goto (-135), 3) := by decide +kernel
theorem dX10_wantCond_149 : decode cX10_wantCond 149 = .ok (.iload_n 1, 1) := by decide +kernel
theorem dX10_wantCond_150 : decode cX10_wantCond 150 = .ok (.ifCond .le 41, 3) := by decide +kernel
theorem dX10_wantCond_153 : decode cX10_wantCond 153 = .ok (.aload_n 0, 1) := by decide +kernel
theorem dX10_wantCond_154 : decode cX10_wantCond 154 = .ok (.bipush 9, 2) := by decide +kernel
theorem dX10_wantCond_156 : decode cX10_wantCond 156 = .ok (.invokevirtual 284, 3) := by decide +kernel
theorem dX10_wantCond_159 : decode cX10_wantCond 159 = .ok (.aload_n 0, 1) := by decide +kernel
theorem dX10_wantCond_160 : decode cX10_wantCond 160 = .ok (.dup, 1) := by decide +kernel
theorem dX10_wantCond_161 : decode cX10_wantCond 161 = .ok (.getfield 243, 3) := by decide +kernel
theorem dX10_wantCond_164 : decode cX10_wantCond 164 = .ok (.iconst 1, 1) := by decide +kernel
theorem dX10_wantCond_165 : decode cX10_wantCond 165 = .ok (.isub, 1) := by decide +kernel
theorem dX10_wantCond_166 : decode cX10_wantCond 166 = .ok (.putfield 243, 3) := by decide +kernel
theorem dX10_wantCond_169 : decode cX10_wantCond 169 = .ok (.iinc 1 (-1), 3) := by decide +kernel
theorem dX10_wantCond_172 : decode cX10_wantCond 172 = .ok (.aload_n 0, 1) := by decide +kernel
theorem dX10_wantCond_173 : decode cX10_wantCond 173 = .ok (.aload_n 0, 1) := by decide +kernel
theorem dX10_wantCond_174 : decode cX10_wantCond 174 = .ok (.bipush 41, 2) := by decide +kernel
theorem dX10_wantCond_176 : decode cX10_wantCond 176 = .ok (.invokevirtual 270, 3) := by decide +kernel
theorem dX10_wantCond_179 : decode cX10_wantCond 179 = .ok (.invokevirtual 236, 3) := by decide +kernel
theorem dX10_wantCond_182 : decode cX10_wantCond 182 = .ok (.aload_n 0, 1) := by decide +kernel
theorem dX10_wantCond_183 : decode cX10_wantCond 183 = .ok (.bipush 7, 2) := by decide +kernel
theorem dX10_wantCond_185 : decode cX10_wantCond 185 = .ok (.invokevirtual 284, 3) := by decide +kernel
theorem dX10_wantCond_188 : decode cX10_wantCond 188 = .ok (.goto (-177), 3) := by decide +kernel
theorem dX10_wantCond_191 : decode cX10_wantCond 191 = .ok (.iconst 0, 1) := by decide +kernel
theorem dX10_wantCond_192 : decode cX10_wantCond 192 = .ok (.istore_n 3, 1) := by decide +kernel
theorem dX10_wantCond_193 : decode cX10_wantCond 193 = .ok (.goto (-182), 3) := by decide +kernel
theorem dX10_wantCond_196 : decode cX10_wantCond 196 = .ok (.aload_n 0, 1) := by decide +kernel
theorem dX10_wantCond_197 : decode cX10_wantCond 197 = .ok (.bipush 9, 2) := by decide +kernel
theorem dX10_wantCond_199 : decode cX10_wantCond 199 = .ok (.invokevirtual 284, 3) := by decide +kernel
theorem dX10_wantCond_202 : decode cX10_wantCond 202 = .ok (.return_, 1) := by decide +kernel
theorem dX10_read_0 : decode cX10_read 0 = .ok (.aload_n 0, 1) := by decide +kernel
theorem dX10_read_1 : decode cX10_read 1 = .ok (.iconst (-1), 1) := by decide +kernel
theorem dX10_read_2 : decode cX10_read 2 = .ok (.putfield 223, 3) := by decide +kernel
theorem dX10_read_5 : decode cX10_read 5 = .ok (.aload_n 0, 1) := by decide +kernel
theorem dX10_read_6 : decode cX10_read 6 = .ok (.iconst 0, 1) := by decide +kernel
theorem dX10_read_7 : decode cX10_read 7 = .ok (.putfield 196, 3) := by decide +kernel
theorem dX10_read_10 : decode cX10_read 10 = .ok (.aload_n 0, 1) := by decide +kernel
theorem dX10_read_11 : decode cX10_read 11 = .ok (.iconst 0, 1) := by decide +kernel
theorem dX10_read_12 : decode cX10_read 12 = .ok (.putfield 240, 3) := by decide +kernel
theorem dX10_read_15 : decode cX10_read 15 = .ok (.aload_n 0, 1) := by decide +kernel
theorem dX10_read_16 : decode cX10_read 16 = .ok (.invokevirtual 230, 3) := by decide +kernel
theorem dX10_read_19 : decode cX10_read 19 = .ok (.iconst 0, 1) := by decide +kernel
theorem dX10_read_20 : decode cX10_read 20 = .ok (.istore_n 1, 1) := by decide +kernel
theorem dX10_read_21 : decode cX10_read 21 = .ok (.aload_n 0, 1) := by decide +kernel
theorem dX10_read_22 : decode cX10_read 22 = .ok (.getfield 206, 3) := by decide +kernel
theorem dX10_read_25 : decode cX10_read 25 = .ok (.ifCond .eq 79, 3) := by decide +kernel
theorem dX10_read_28 : decode cX10_read 28 = .ok (.aload_n 0, 1) := by decide +kernel
theorem dX10_read_29 : decode cX10_read 29 = .ok (.invokevirtual 226, 3) := by decide +kernel
theorem dX10_read_32 : decode cX10_read 32 = .ok (.ifCond .eq 72, 3) := by decide +kernel
theorem dX10_read_35 : decode cX10_read 35 = .ok (.aload_n 0, 1) := by decide +kernel
theorem dX10_read_36 : decode cX10_read 36 = .ok (.aload_n 0, 1) := by decide +kernel
theorem dX10_read_37 : decode cX10_read 37 = .ok (.ldc2_w 291, 3) := by decide +kernel
theorem dX10_read_40 : decode cX10_read 40 = .ok (.invokevirtual 251, 3) := by decide +kernel
theorem dX10_read_43 : decode cX10_read 43 = .ok (.ifCond .eq 13, 3) := by decide +kernel
theorem dX10_read_46 : decode cX10_read 46 = .ok (.iload_n 1, 1) := by decide +kernel
theorem dX10_read_47 : decode cX10_read 47 = .ok (.bipush 8, 2) := by decide +kernel
theorem dX10_read_49 : decode cX10_read 49 = .ok (.if_icmp .ge 7, 3) := by decide +kernel
theorem dX10_read_52 : decode cX10_read 52 = .ok (.iconst 1, 1) := by decide +kernel
theorem dX10_read_53 : decode cX10_read 53 = .ok (.goto 4, 3) := by decide +kernel
theorem dX10_read_56 : decode cX10_read 56 = .ok (.iconst 0, 1) := by decide +kernel
theorem dX10_read_57 : decode cX10_read 57 = .ok (.invokevirtual 236, 3) := by decide +kernel
theorem dX10_read_60 : decode cX10_read 60 = .ok (.aload_n 0, 1) := by decide +kernel
theorem dX10_read_61 : decode cX10_read 61 = .ok (.invokevirtual 226, 3) := by decide +kernel
theorem dX10_read_64 : decode cX10_read 64 = .ok (.ifCond .eq 17, 3) := by decide +kernel
theorem dX10_read_67 : decode cX10_read 67 = .ok (.aload_n 0, 1) := by decide +kernel
theorem dX10_read_68 : decode cX10_read 68 = .ok (.invokevirtual 293, 3) := by decide +kernel
theorem dX10_read_71 : decode cX10_read 71 = .ok (.aload_n 0, 1) := by decide +kernel
theorem dX10_read_72 : decode cX10_read 72 = .ok (.aload_n 0, 1) := by decide +kernel
theorem dX10_read_73 : decode cX10_read 73 = .ok (.bipush 59, 2) := by decide +kernel
theorem dX10_read_75 : decode cX10_read 75 = .ok (.invokevirtual 270, 3) := by decide +kernel
theorem dX10_read_78 : decode cX10_read 78 = .ok (.invokevirtual 236, 3) := by decide +kernel
theorem dX10_read_81 : decode cX10_read 81 = .ok (.aload_n 0, 1) := by decide +kernel
theorem dX10_read_82 : decode cX10_read 82 = .ok (.invokevirtual 226, 3) := by decide +kernel
theorem dX10_read_85 : decode cX10_read 85 = .ok (.ifCond .eq (-64), 3) := by decide +kernel
theorem dX10_read_88 : decode cX10_read 88 = .ok (.aload_n 0, 1) := by decide +kernel
theorem dX10_read_89 : decode cX10_read 89 = .ok (.getfield 59, 3) := by decide +kernel
theorem dX10_read_92 : decode cX10_read 92 = .ok (.iload_n 1, 1) := by decide +kernel
theorem dX10_read_93 : decode cX10_read 93 = .ok (.aload_n 0, 1) := by decide +kernel
theorem dX10_read_94 : decode cX10_read 94 = .ok (.getfield 240, 3) := by decide +kernel
theorem dX10_read_97 : decode cX10_read 97 = .ok (.iastore, 1) := by decide +kernel
theorem dX10_read_98 : decode cX10_read 98 = .ok (.iinc 1 1, 3) := by decide +kernel
theorem dX10_read_101 : decode cX10_read 101 = .ok (.goto (-80), 3) := by decide +kernel
theorem dX10_read_104 : decode cX10_read 104 = .ok (.aload_n 0, 1) := by decide +kernel
theorem dX10_read_105 : decode cX10_read 105 = .ok (.iconst 0, 1) := by decide +kernel
theorem dX10_read_106 : decode cX10_read 106 = .ok (.putfield 191, 3) := by decide +kernel
theorem dX10_read_109 : decode cX10_read 109 = .ok (.aload_n 0, 1) := by decide +kernel
theorem dX10_read_110 : decode cX10_read 110 = .ok (.invokevirtual 226, 3) := by decide +kernel
theorem dX10_read_113 : decode cX10_read 113 = .ok (.ifCond .ne 11, 3) := by decide +kernel
theorem dX10_read_116 : decode cX10_read 116 = .ok (.bipush (-100), 2) := by decide +kernel
theorem dX10_read_118 : decode cX10_read 118 = .ok (.aload_n 0, 1) := by decide +kernel
theorem dX10_read_119 : decode cX10_read 119 = .ok (.getfield 223, 3) := by decide +kernel
theorem dX10_read_122 : decode cX10_read 122 = .ok (.isub, 1) := by decide +kernel
theorem dX10_read_123 : decode cX10_read 123 = .ok (.ireturn, 1) := by decide +kernel
theorem dX10_read_124 : decode cX10_read 124 = .ok (.aload_n 0, 1) := by decide +kernel
theorem dX10_read_125 : decode cX10_read 125 = .ok (.iload_n 1, 1) := by decide +kernel
theorem dX10_read_126 : decode cX10_read 126 = .ok (.putfield 296, 3) := by decide +kernel
theorem dX10_read_129 : decode cX10_read 129 = .ok (.iconst 0, 1) := by decide +kernel
theorem dX10_read_130 : decode cX10_read 130 = .ok (.istore_n 2, 1) := by decide +kernel
theorem dX10_read_131 : decode cX10_read 131 = .ok (.iload_n 2, 1) := by decide +kernel
theorem dX10_read_132 : decode cX10_read 132 = .ok (.iload_n 1, 1) := by decide +kernel
theorem dX10_read_133 : decode cX10_read 133 = .ok (.if_icmp .ge 21, 3) := by decide +kernel
theorem dX10_read_136 : decode cX10_read 136 = .ok (.aload_n 0, 1) := by decide +kernel
theorem dX10_read_137 : decode cX10_read 137 = .ok (.getfield 29, 3) := by decide +kernel
theorem dX10_read_140 : decode cX10_read 140 = .ok (.iload_n 2, 1) := by decide +kernel
theorem dX10_read_141 : decode cX10_read 141 = .ok (.aload_n 0, 1) := by decide +kernel
theorem dX10_read_142 : decode cX10_read 142 = .ok (.getfield 59, 3) := by decide +kernel
theorem dX10_read_145 : decode cX10_read 145 = .ok (.iload_n 2, 1) := by decide +kernel
theorem dX10_read_146 : decode cX10_read 146 = .ok (.iaload, 1) := by decide +kernel
theorem dX10_read_147 : decode cX10_read 147 = .ok (.iastore, 1) := by decide +kernel
theorem dX10_read_148 : decode cX10_read 148 = .ok (.iinc 2 1, 3) := by decide +kernel
theorem dX10_read_151 : decode cX10_read 151 = .ok (.goto (-20), 3) := by decide +kernel
theorem dX10_read_154 : decode cX10_read 154 = .ok (.iconst 0, 1) := by decide +kernel
theorem dX10_read_155 : decode cX10_read 155 = .ok (.istore_n 2, 1) := by decide +kernel
theorem dX10_read_156 : decode cX10_read 156 = .ok (.iload_n 2, 1) := by decide +kernel
theorem dX10_read_157 : decode cX10_read 157 = .ok (.aload_n 0, 1) := by decide +kernel
theorem dX10_read_158 : decode cX10_read 158 = .ok (.getfield 240, 3) := by decide +kernel
theorem dX10_read_161 : decode cX10_read 161 = .ok (.if_icmp .ge 21, 3) := by decide +kernel
theorem dX10_read_164 : decode cX10_read 164 = .ok (.aload_n 0, 1) := by decide +kernel
theorem dX10_read_165 : decode cX10_read 165 = .ok (.getfield 32, 3) := by decide +kernel
theorem dX10_read_168 : decode cX10_read 168 = .ok (.iload_n 2, 1) := by decide +kernel
theorem dX10_read_169 : decode cX10_read 169 = .ok (.aload_n 0, 1) := by decide +kernel
theorem dX10_read_170 : decode cX10_read 170 = .ok (.getfield 53, 3) := by decide +kernel
theorem dX10_read_173 : decode cX10_read 173 = .ok (.iload_n 2, 1) := by decide +kernel
theorem dX10_read_174 : decode cX10_read 174 = .ok (.iaload, 1) := by decide +kernel
theorem dX10_read_175 : decode cX10_read 175 = .ok (.iastore, 1) := by decide +kernel
theorem dX10_read_176 : decode cX10_read 176 = .ok (.iinc 2 1, 3) := by decide +kernel
theorem dX10_read_179 : decode cX10_read 179 = .ok (.goto (-23), 3) := by decide +kernel
theorem dX10_read_182 : decode cX10_read 182 = .ok (.iload_n 1, 1) := by decide +kernel
theorem dX10_read_183 : decode cX10_read 183 = .ok (.ireturn, 1) := by decide +kernel
theorem dX10_valueOf_0 : decode cX10_valueOf 0 = .ok (.iload_n 1, 1) := by decide +kernel
theorem dX10_valueOf_1 : decode cX10_valueOf 1 = .ok (.sipush 1000, 3) := by decide +kernel
theorem dX10_valueOf_4 : decode cX10_valueOf 4 = .ok (.if_icmp .lt 9, 3) := by decide +kernel
theorem dX10_valueOf_7 : decode cX10_valueOf 7 = .ok (.iload_n 1, 1) := by decide +kernel
theorem dX10_valueOf_8 : decode cX10_valueOf 8 = .ok (.sipush 1000, 3) := by decide +kernel
theorem dX10_valueOf_11 : decode cX10_valueOf 11 = .ok (.isub, 1) := by decide +kernel
theorem dX10_valueOf_12 : decode cX10_valueOf 12 = .ok (.ireturn, 1) := by decide +kernel
theorem dX10_valueOf_13 : decode cX10_valueOf 13 = .ok (.iload_n 1, 1) := by decide +kernel
theorem dX10_valueOf_14 : decode cX10_valueOf 14 = .ok (.sipush 400, 3) := by decide +kernel
theorem dX10_valueOf_17 : decode cX10_valueOf 17 = .ok (.if_icmp .lt 36, 3) := by decide +kernel
theorem dX10_valueOf_20 : decode cX10_valueOf 20 = .ok (.iload_n 1, 1) := by decide +kernel
theorem dX10_valueOf_21 : decode cX10_valueOf 21 = .ok (.sipush 400, 3) := by decide +kernel
theorem dX10_valueOf_24 : decode cX10_valueOf 24 = .ok (.if_icmp .ne 10, 3) := by decide +kernel
theorem dX10_valueOf_27 : decode cX10_valueOf 27 = .ok (.aload_n 0, 1) := by decide +kernel
theorem dX10_valueOf_28 : decode cX10_valueOf 28 = .ok (.getfield 182, 3) := by decide +kernel
theorem dX10_valueOf_31 : decode cX10_valueOf 31 = .ok (.goto 21, 3) := by decide +kernel
theorem dX10_valueOf_34 : decode cX10_valueOf 34 = .ok (.iload_n 1, 1) := by decide +kernel
theorem dX10_valueOf_35 : decode cX10_valueOf 35 = .ok (.sipush 401, 3) := by decide +kernel
theorem dX10_valueOf_38 : decode cX10_valueOf 38 = .ok (.if_icmp .ne 10, 3) := by decide +kernel
theorem dX10_valueOf_41 : decode cX10_valueOf 41 = .ok (.aload_n 0, 1) := by decide +kernel
theorem dX10_valueOf_42 : decode cX10_valueOf 42 = .ok (.getfield 185, 3) := by decide +kernel
theorem dX10_valueOf_45 : decode cX10_valueOf 45 = .ok (.goto 7, 3) := by decide +kernel
theorem dX10_valueOf_48 : decode cX10_valueOf 48 = .ok (.aload_n 0, 1) := by decide +kernel
theorem dX10_valueOf_49 : decode cX10_valueOf 49 = .ok (.getfield 7, 3) := by decide +kernel
theorem dX10_valueOf_52 : decode cX10_valueOf 52 = .ok (.ireturn, 1) := by decide +kernel
theorem dX10_valueOf_53 : decode cX10_valueOf 53 = .ok (.iload_n 1, 1) := by decide +kernel
theorem dX10_valueOf_54 : decode cX10_valueOf 54 = .ok (.sipush 300, 3) := by decide +kernel
theorem dX10_valueOf_57 : decode cX10_valueOf 57 = .ok (.if_icmp .lt 30, 3) := by decide +kernel
theorem dX10_valueOf_60 : decode cX10_valueOf 60 = .ok (.aload_n 0, 1) := by decide +kernel
theorem dX10_valueOf_61 : decode cX10_valueOf 61 = .ok (.iload_n 1, 1) := by decide +kernel
theorem dX10_valueOf_62 : decode cX10_valueOf 62 = .ok (.sipush 300, 3) := by decide +kernel
theorem dX10_valueOf_65 : decode cX10_valueOf 65 = .ok (.isub, 1) := by decide +kernel
theorem dX10_valueOf_66 : decode cX10_valueOf 66 = .ok (.invokevirtual 134, 3) := by decide +kernel
theorem dX10_valueOf_69 : decode cX10_valueOf 69 = .ok (.ifCond .eq 16, 3) := by decide +kernel
theorem dX10_valueOf_72 : decode cX10_valueOf 72 = .ok (.aload_n 0, 1) := by decide +kernel
theorem dX10_valueOf_73 : decode cX10_valueOf 73 = .ok (.iload_n 1, 1) := by decide +kernel
theorem dX10_valueOf_74 : decode cX10_valueOf 74 = .ok (.sipush 300, 3) := by decide +kernel
theorem dX10_valueOf_77 : decode cX10_valueOf 77 = .ok (.isub, 1) := by decide +kernel
theorem dX10_valueOf_78 : decode cX10_valueOf 78 = .ok (.iload_n 2, 1) := by decide +kernel
theorem dX10_valueOf_79 : decode cX10_valueOf 79 = .ok (.invokevirtual 170, 3) := by decide +kernel
theorem dX10_valueOf_82 : decode cX10_valueOf 82 = .ok (.goto 4, 3) := by decide +kernel
theorem dX10_valueOf_85 : decode cX10_valueOf 85 = .ok (.iconst 0, 1) := by decide +kernel
theorem dX10_valueOf_86 : decode cX10_valueOf 86 = .ok (.ireturn, 1) := by decide +kernel
theorem dX10_valueOf_87 : decode cX10_valueOf 87 = .ok (.aload_n 0, 1) := by decide +kernel
theorem dX10_valueOf_88 : decode cX10_valueOf 88 = .ok (.getfield 35, 3) := by decide +kernel
theorem dX10_valueOf_91 : decode cX10_valueOf 91 = .ok (.iload_n 1, 1) := by decide +kernel
theorem dX10_valueOf_92 : decode cX10_valueOf 92 = .ok (.sipush 200, 3) := by decide +kernel
theorem dX10_valueOf_95 : decode cX10_valueOf 95 = .ok (.isub, 1) := by decide +kernel
theorem dX10_valueOf_96 : decode cX10_valueOf 96 = .ok (.iaload, 1) := by decide +kernel
theorem dX10_valueOf_97 : decode cX10_valueOf 97 = .ok (.ireturn, 1) := by decide +kernel
theorem dX10_joined_0 : decode cX10_joined 0 = .ok (.iload_n 0, 1) := by decide +kernel
theorem dX10_joined_1 : decode cX10_joined 1 = .ok (.tableswitch 85 8 16 #[51, 55, 85, 85, 85, 85, 59, 63, 74], 51) := by decide +kernel
theorem dX10_joined_52 : decode cX10_joined 52 = .ok (.iload_n 1, 1) := by decide +kernel
theorem dX10_joined_53 : decode cX10_joined 53 = .ok (.iload_n 2, 1) := by decide +kernel
theorem dX10_joined_54 : decode cX10_joined 54 = .ok (.iand, 1) := by decide +kernel
theorem dX10_joined_55 : decode cX10_joined 55 = .ok (.ireturn, 1) := by decide +kernel
theorem dX10_joined_56 : decode cX10_joined 56 = .ok (.iload_n 1, 1) := by decide +kernel
theorem dX10_joined_57 : decode cX10_joined 57 = .ok (.iload_n 2, 1) := by decide +kernel
theorem dX10_joined_58 : decode cX10_joined 58 = .ok (.ior, 1) := by decide +kernel
theorem dX10_joined_59 : decode cX10_joined 59 = .ok (.ireturn, 1) := by decide +kernel
theorem dX10_joined_60 : decode cX10_joined 60 = .ok (.iload_n 1, 1) := by decide +kernel
theorem dX10_joined_61 : decode cX10_joined 61 = .ok (.iload_n 2, 1) := by decide +kernel
theorem dX10_joined_62 : decode cX10_joined 62 = .ok (.iadd, 1) := by decide +kernel
theorem dX10_joined_63 : decode cX10_joined 63 = .ok (.ireturn, 1) := by decide +kernel
theorem dX10_joined_64 : decode cX10_joined 64 = .ok (.iload_n 1, 1) := by decide +kernel
theorem dX10_joined_65 : decode cX10_joined 65 = .ok (.iload_n 2, 1) := by decide +kernel
theorem dX10_joined_66 : decode cX10_joined 66 = .ok (.if_icmp .ge 7, 3) := by decide +kernel
theorem dX10_joined_69 : decode cX10_joined 69 = .ok (.iconst 1, 1) := by decide +kernel
theorem dX10_joined_70 : decode cX10_joined 70 = .ok (.goto 4, 3) := by decide +kernel
theorem dX10_joined_73 : decode cX10_joined 73 = .ok (.iconst 0, 1) := by decide +kernel
theorem dX10_joined_74 : decode cX10_joined 74 = .ok (.ireturn, 1) := by decide +kernel
theorem dX10_joined_75 : decode cX10_joined 75 = .ok (.iload_n 1, 1) := by decide +kernel
theorem dX10_joined_76 : decode cX10_joined 76 = .ok (.iload_n 2, 1) := by decide +kernel
theorem dX10_joined_77 : decode cX10_joined 77 = .ok (.if_icmp .ne 7, 3) := by decide +kernel
theorem dX10_joined_80 : decode cX10_joined 80 = .ok (.iconst 1, 1) := by decide +kernel
theorem dX10_joined_81 : decode cX10_joined 81 = .ok (.goto 4, 3) := by decide +kernel
theorem dX10_joined_84 : decode cX10_joined 84 = .ok (.iconst 0, 1) := by decide +kernel
theorem dX10_joined_85 : decode cX10_joined 85 = .ok (.ireturn, 1) := by decide +kernel
theorem dX10_joined_86 : decode cX10_joined 86 = .ok (.iload_n 1, 1) := by decide +kernel
theorem dX10_joined_87 : decode cX10_joined 87 = .ok (.iload_n 2, 1) := by decide +kernel
theorem dX10_joined_88 : decode cX10_joined 88 = .ok (.if_icmp .le 7, 3) := by decide +kernel
theorem dX10_joined_91 : decode cX10_joined 91 = .ok (.iconst 1, 1) := by decide +kernel
theorem dX10_joined_92 : decode cX10_joined 92 = .ok (.goto 4, 3) := by decide +kernel
theorem dX10_joined_95 : decode cX10_joined 95 = .ok (.iconst 0, 1) := by decide +kernel
theorem dX10_joined_96 : decode cX10_joined 96 = .ok (.ireturn, 1) := by decide +kernel
theorem dX10_joins_0 : decode cX10_joins 0 = .ok (.iload_n 0, 1) := by decide +kernel
theorem dX10_joins_1 : decode cX10_joins 1 = .ok (.bipush 8, 2) := by decide +kernel
theorem dX10_joins_3 : decode cX10_joins 3 = .ok (.if_icmp .eq 20, 3) := by decide +kernel
theorem dX10_joins_6 : decode cX10_joins 6 = .ok (.iload_n 0, 1) := by decide +kernel
theorem dX10_joins_7 : decode cX10_joins 7 = .ok (.bipush 9, 2) := by decide +kernel
theorem dX10_joins_9 : decode cX10_joins 9 = .ok (.if_icmp .eq 14, 3) := by decide +kernel
theorem dX10_joins_12 : decode cX10_joins 12 = .ok (.iload_n 0, 1) := by decide +kernel
theorem dX10_joins_13 : decode cX10_joins 13 = .ok (.bipush 14, 2) := by decide +kernel
theorem dX10_joins_15 : decode cX10_joins 15 = .ok (.bipush 17, 2) := by decide +kernel
theorem dX10_joins_17 : decode cX10_joins 17 = .ok (.invokestatic 114, 3) := by decide +kernel
theorem dX10_joins_20 : decode cX10_joins 20 = .ok (.ifCond .eq 7, 3) := by decide +kernel
theorem dX10_joins_23 : decode cX10_joins 23 = .ok (.iconst 1, 1) := by decide +kernel
theorem dX10_joins_24 : decode cX10_joins 24 = .ok (.goto 4, 3) := by decide +kernel
theorem dX10_joins_27 : decode cX10_joins 27 = .ok (.iconst 0, 1) := by decide +kernel
theorem dX10_joins_28 : decode cX10_joins 28 = .ok (.ireturn, 1) := by decide +kernel
theorem dX10_holdsIn_0 : decode cX10_holdsIn 0 = .ok (.iconst 0, 1) := by decide +kernel
theorem dX10_holdsIn_1 : decode cX10_holdsIn 1 = .ok (.istore_n 3, 1) := by decide +kernel
theorem dX10_holdsIn_2 : decode cX10_holdsIn 2 = .ok (.iload_n 1, 1) := by decide +kernel
theorem dX10_holdsIn_3 : decode cX10_holdsIn 3 = .ok (.ifCond .ne 7, 3) := by decide +kernel
theorem dX10_holdsIn_6 : decode cX10_holdsIn 6 = .ok (.iconst 0, 1) := by decide +kernel
theorem dX10_holdsIn_7 : decode cX10_holdsIn 7 = .ok (.goto 11, 3) := by decide +kernel
theorem dX10_holdsIn_10 : decode cX10_holdsIn 10 = .ok (.aload_n 0, 1) := by decide +kernel
theorem dX10_holdsIn_11 : decode cX10_holdsIn 11 = .ok (.getfield 29, 3) := by decide +kernel
theorem dX10_holdsIn_14 : decode cX10_holdsIn 14 = .ok (.iload_n 1, 1) := by decide +kernel
theorem dX10_holdsIn_15 : decode cX10_holdsIn 15 = .ok (.iconst 1, 1) := by decide +kernel
theorem dX10_holdsIn_16 : decode cX10_holdsIn 16 = .ok (.isub, 1) := by decide +kernel
theorem dX10_holdsIn_17 : decode cX10_holdsIn 17 = .ok (.iaload, 1) := by decide +kernel
theorem dX10_holdsIn_18 : decode cX10_holdsIn 18 = .ok (.istore 4, 2) := by decide +kernel
theorem dX10_holdsIn_20 : decode cX10_holdsIn 20 = .ok (.iload 4, 2) := by decide +kernel
theorem dX10_holdsIn_22 : decode cX10_holdsIn 22 = .ok (.aload_n 0, 1) := by decide +kernel
theorem dX10_holdsIn_23 : decode cX10_holdsIn 23 = .ok (.getfield 29, 3) := by decide +kernel
theorem dX10_holdsIn_26 : decode cX10_holdsIn 26 = .ok (.iload_n 1, 1) := by decide +kernel
theorem dX10_holdsIn_27 : decode cX10_holdsIn 27 = .ok (.iaload, 1) := by decide +kernel
theorem dX10_holdsIn_28 : decode cX10_holdsIn 28 = .ok (.if_icmp .ge 103, 3) := by decide +kernel
theorem dX10_holdsIn_31 : decode cX10_holdsIn 31 = .ok (.aload_n 0, 1) := by decide +kernel
theorem dX10_holdsIn_32 : decode cX10_holdsIn 32 = .ok (.getfield 32, 3) := by decide +kernel
theorem dX10_holdsIn_35 : decode cX10_holdsIn 35 = .ok (.iload 4, 2) := by decide +kernel
theorem dX10_holdsIn_37 : decode cX10_holdsIn 37 = .ok (.iaload, 1) := by decide +kernel
theorem dX10_holdsIn_38 : decode cX10_holdsIn 38 = .ok (.istore 5, 2) := by decide +kernel
theorem dX10_holdsIn_40 : decode cX10_holdsIn 40 = .ok (.iload 5, 2) := by decide +kernel
theorem dX10_holdsIn_42 : decode cX10_holdsIn 42 = .ok (.bipush 7, 2) := by decide +kernel
theorem dX10_holdsIn_44 : decode cX10_holdsIn 44 = .ok (.if_icmp .ne 24, 3) := by decide +kernel
theorem dX10_holdsIn_47 : decode cX10_holdsIn 47 = .ok (.aload_n 0, 1) := by decide +kernel
theorem dX10_holdsIn_48 : decode cX10_holdsIn 48 = .ok (.getfield 62, 3) := by decide +kernel
theorem dX10_holdsIn_51 : decode cX10_holdsIn 51 = .ok (.iload_n 3, 1) := by decide +kernel
theorem dX10_holdsIn_52 : decode cX10_holdsIn 52 = .ok (.iconst 1, 1) := by decide +kernel
theorem dX10_holdsIn_53 : decode cX10_holdsIn 53 = .ok (.isub, 1) := by decide +kernel
theorem dX10_holdsIn_54 : decode cX10_holdsIn 54 = .ok (.iconst 1, 1) := by decide +kernel
theorem dX10_holdsIn_55 : decode cX10_holdsIn 55 = .ok (.aload_n 0, 1) := by decide +kernel
theorem dX10_holdsIn_56 : decode cX10_holdsIn 56 = .ok (.getfield 62, 3) := by decide +kernel
theorem dX10_holdsIn_59 : decode cX10_holdsIn 59 = .ok (.iload_n 3, 1) := by decide +kernel
theorem dX10_holdsIn_60 : decode cX10_holdsIn 60 = .ok (.iconst 1, 1) := by decide +kernel
theorem dX10_holdsIn_61 : decode cX10_holdsIn 61 = .ok (.isub, 1) := by decide +kernel
theorem dX10_holdsIn_62 : decode cX10_holdsIn 62 = .ok (.iaload, 1) := by decide +kernel
theorem dX10_holdsIn_63 : decode cX10_holdsIn 63 = .ok (.isub, 1) := by decide +kernel
theorem dX10_holdsIn_64 : decode cX10_holdsIn 64 = .ok (.iastore, 1) := by decide +kernel
theorem dX10_holdsIn_65 : decode cX10_holdsIn 65 = .ok (.goto 60, 3) := by decide +kernel
theorem dX10_holdsIn_68 : decode cX10_holdsIn 68 = .ok (.iload 5, 2) := by decide +kernel
theorem dX10_holdsIn_70 : decode cX10_holdsIn 70 = .ok (.invokestatic 299, 3) := by decide +kernel
theorem dX10_holdsIn_73 : decode cX10_holdsIn 73 = .ok (.ifCond .eq 36, 3) := by decide +kernel
theorem dX10_holdsIn_76 : decode cX10_holdsIn 76 = .ok (.iinc 3 (-1), 3) := by decide +kernel
theorem dX10_holdsIn_79 : decode cX10_holdsIn 79 = .ok (.aload_n 0, 1) := by decide +kernel
theorem dX10_holdsIn_80 : decode cX10_holdsIn 80 = .ok (.getfield 62, 3) := by decide +kernel
theorem dX10_holdsIn_83 : decode cX10_holdsIn 83 = .ok (.iload_n 3, 1) := by decide +kernel
theorem dX10_holdsIn_84 : decode cX10_holdsIn 84 = .ok (.iconst 1, 1) := by decide +kernel
theorem dX10_holdsIn_85 : decode cX10_holdsIn 85 = .ok (.isub, 1) := by decide +kernel
theorem dX10_holdsIn_86 : decode cX10_holdsIn 86 = .ok (.iload 5, 2) := by decide +kernel
theorem dX10_holdsIn_88 : decode cX10_holdsIn 88 = .ok (.aload_n 0, 1) := by decide +kernel
theorem dX10_holdsIn_89 : decode cX10_holdsIn 89 = .ok (.getfield 62, 3) := by decide +kernel
theorem dX10_holdsIn_92 : decode cX10_holdsIn 92 = .ok (.iload_n 3, 1) := by decide +kernel
theorem dX10_holdsIn_93 : decode cX10_holdsIn 93 = .ok (.iconst 1, 1) := by decide +kernel
theorem dX10_holdsIn_94 : decode cX10_holdsIn 94 = .ok (.isub, 1) := by decide +kernel
theorem dX10_holdsIn_95 : decode cX10_holdsIn 95 = .ok (.iaload, 1) := by decide +kernel
theorem dX10_holdsIn_96 : decode cX10_holdsIn 96 = .ok (.aload_n 0, 1) := by decide +kernel
theorem dX10_holdsIn_97 : decode cX10_holdsIn 97 = .ok (.getfield 62, 3) := by decide +kernel
theorem dX10_holdsIn_100 : decode cX10_holdsIn 100 = .ok (.iload_n 3, 1) := by decide +kernel
theorem dX10_holdsIn_101 : decode cX10_holdsIn 101 = .ok (.iaload, 1) := by decide +kernel
theorem dX10_holdsIn_102 : decode cX10_holdsIn 102 = .ok (.invokestatic 302, 3) := by decide +kernel
theorem dX10_holdsIn_105 : decode cX10_holdsIn 105 = .ok (.iastore, 1) := by decide +kernel
theorem dX10_holdsIn_106 : decode cX10_holdsIn 106 = .ok (.goto 19, 3) := by decide +kernel
theorem dX10_holdsIn_109 : decode cX10_holdsIn 109 = .ok (.aload_n 0, 1) := by decide +kernel
theorem dX10_holdsIn_110 : decode cX10_holdsIn 110 = .ok (.getfield 62, 3) := by decide +kernel
theorem dX10_holdsIn_113 : decode cX10_holdsIn 113 = .ok (.iload_n 3, 1) := by decide +kernel
theorem dX10_holdsIn_114 : decode cX10_holdsIn 114 = .ok (.aload_n 0, 1) := by decide +kernel
theorem dX10_holdsIn_115 : decode cX10_holdsIn 115 = .ok (.iload 5, 2) := by decide +kernel
theorem dX10_holdsIn_117 : decode cX10_holdsIn 117 = .ok (.iload_n 2, 1) := by decide +kernel
theorem dX10_holdsIn_118 : decode cX10_holdsIn 118 = .ok (.invokevirtual 306, 3) := by decide +kernel
theorem dX10_holdsIn_121 : decode cX10_holdsIn 121 = .ok (.iastore, 1) := by decide +kernel
theorem dX10_holdsIn_122 : decode cX10_holdsIn 122 = .ok (.iinc 3 1, 3) := by decide +kernel
theorem dX10_holdsIn_125 : decode cX10_holdsIn 125 = .ok (.iinc 4 1, 3) := by decide +kernel
theorem dX10_holdsIn_128 : decode cX10_holdsIn 128 = .ok (.goto (-108), 3) := by decide +kernel
theorem dX10_holdsIn_131 : decode cX10_holdsIn 131 = .ok (.aload_n 0, 1) := by decide +kernel
theorem dX10_holdsIn_132 : decode cX10_holdsIn 132 = .ok (.getfield 62, 3) := by decide +kernel
theorem dX10_holdsIn_135 : decode cX10_holdsIn 135 = .ok (.iconst 0, 1) := by decide +kernel
theorem dX10_holdsIn_136 : decode cX10_holdsIn 136 = .ok (.iaload, 1) := by decide +kernel
theorem dX10_holdsIn_137 : decode cX10_holdsIn 137 = .ok (.iconst 1, 1) := by decide +kernel
theorem dX10_holdsIn_138 : decode cX10_holdsIn 138 = .ok (.if_icmp .ne 7, 3) := by decide +kernel
theorem dX10_holdsIn_141 : decode cX10_holdsIn 141 = .ok (.iconst 1, 1) := by decide +kernel
theorem dX10_holdsIn_142 : decode cX10_holdsIn 142 = .ok (.goto 4, 3) := by decide +kernel
theorem dX10_holdsIn_145 : decode cX10_holdsIn 145 = .ok (.iconst 0, 1) := by decide +kernel
theorem dX10_holdsIn_146 : decode cX10_holdsIn 146 = .ok (.ireturn, 1) := by decide +kernel
theorem dX10_held_0 : decode cX10_held 0 = .ok (.aload_n 0, 1) := by decide +kernel
theorem dX10_held_1 : decode cX10_held 1 = .ok (.iload_n 1, 1) := by decide +kernel
theorem dX10_held_2 : decode cX10_held 2 = .ok (.invokevirtual 188, 3) := by decide +kernel
theorem dX10_held_5 : decode cX10_held 5 = .ok (.aload_n 0, 1) := by decide +kernel
theorem dX10_held_6 : decode cX10_held 6 = .ok (.aload_n 0, 1) := by decide +kernel
theorem dX10_held_7 : decode cX10_held 7 = .ok (.getfield 179, 3) := by decide +kernel
theorem dX10_held_10 : decode cX10_held 10 = .ok (.invokevirtual 166, 3) := by decide +kernel
theorem dX10_held_13 : decode cX10_held 13 = .ok (.iconst 0, 1) := by decide +kernel
theorem dX10_held_14 : decode cX10_held 14 = .ok (.istore_n 2, 1) := by decide +kernel
theorem dX10_held_15 : decode cX10_held 15 = .ok (.iconst 0, 1) := by decide +kernel
theorem dX10_held_16 : decode cX10_held 16 = .ok (.istore_n 3, 1) := by decide +kernel
theorem dX10_held_17 : decode cX10_held 17 = .ok (.iload_n 3, 1) := by decide +kernel
theorem dX10_held_18 : decode cX10_held 18 = .ok (.aload_n 0, 1) := by decide +kernel
theorem dX10_held_19 : decode cX10_held 19 = .ok (.getfield 296, 3) := by decide +kernel
theorem dX10_held_22 : decode cX10_held 22 = .ok (.if_icmp .ge 28, 3) := by decide +kernel
theorem dX10_held_25 : decode cX10_held 25 = .ok (.iload_n 2, 1) := by decide +kernel
theorem dX10_held_26 : decode cX10_held 26 = .ok (.aload_n 0, 1) := by decide +kernel
theorem dX10_held_27 : decode cX10_held 27 = .ok (.iload_n 3, 1) := by decide +kernel
theorem dX10_held_28 : decode cX10_held 28 = .ok (.iload_n 1, 1) := by decide +kernel
theorem dX10_held_29 : decode cX10_held 29 = .ok (.invokevirtual 309, 3) := by decide +kernel
theorem dX10_held_32 : decode cX10_held 32 = .ok (.ifCond .eq 9, 3) := by decide +kernel
theorem dX10_held_35 : decode cX10_held 35 = .ok (.iconst 1, 1) := by decide +kernel
theorem dX10_held_36 : decode cX10_held 36 = .ok (.iload_n 3, 1) := by decide +kernel
theorem dX10_held_37 : decode cX10_held 37 = .ok (.ishl, 1) := by decide +kernel
theorem dX10_held_38 : decode cX10_held 38 = .ok (.goto 4, 3) := by decide +kernel
theorem dX10_held_41 : decode cX10_held 41 = .ok (.iconst 0, 1) := by decide +kernel
theorem dX10_held_42 : decode cX10_held 42 = .ok (.ior, 1) := by decide +kernel
theorem dX10_held_43 : decode cX10_held 43 = .ok (.istore_n 2, 1) := by decide +kernel
theorem dX10_held_44 : decode cX10_held 44 = .ok (.iinc 3 1, 3) := by decide +kernel
theorem dX10_held_47 : decode cX10_held 47 = .ok (.goto (-30), 3) := by decide +kernel
theorem dX10_held_50 : decode cX10_held 50 = .ok (.iload_n 2, 1) := by decide +kernel
theorem dX10_held_51 : decode cX10_held 51 = .ok (.ireturn, 1) := by decide +kernel
theorem dX10_missing_0 : decode cX10_missing 0 = .ok (.iconst 1, 1) := by decide +kernel
theorem dX10_missing_1 : decode cX10_missing 1 = .ok (.aload_n 0, 1) := by decide +kernel
theorem dX10_missing_2 : decode cX10_missing 2 = .ok (.getfield 296, 3) := by decide +kernel
theorem dX10_missing_5 : decode cX10_missing 5 = .ok (.ishl, 1) := by decide +kernel
theorem dX10_missing_6 : decode cX10_missing 6 = .ok (.iconst 1, 1) := by decide +kernel
theorem dX10_missing_7 : decode cX10_missing 7 = .ok (.isub, 1) := by decide +kernel
theorem dX10_missing_8 : decode cX10_missing 8 = .ok (.istore_n 1, 1) := by decide +kernel
theorem dX10_missing_9 : decode cX10_missing 9 = .ok (.iconst 0, 1) := by decide +kernel
theorem dX10_missing_10 : decode cX10_missing 10 = .ok (.istore_n 2, 1) := by decide +kernel
theorem dX10_missing_11 : decode cX10_missing 11 = .ok (.iload_n 2, 1) := by decide +kernel
theorem dX10_missing_12 : decode cX10_missing 12 = .ok (.bipush 9, 2) := by decide +kernel
theorem dX10_missing_14 : decode cX10_missing 14 = .ok (.if_icmp .ge 17, 3) := by decide +kernel
theorem dX10_missing_17 : decode cX10_missing 17 = .ok (.iload_n 1, 1) := by decide +kernel
theorem dX10_missing_18 : decode cX10_missing 18 = .ok (.aload_n 0, 1) := by decide +kernel
theorem dX10_missing_19 : decode cX10_missing 19 = .ok (.iload_n 2, 1) := by decide +kernel
theorem dX10_missing_20 : decode cX10_missing 20 = .ok (.invokevirtual 312, 3) := by decide +kernel
theorem dX10_missing_23 : decode cX10_missing 23 = .ok (.iand, 1) := by decide +kernel
theorem dX10_missing_24 : decode cX10_missing 24 = .ok (.istore_n 1, 1) := by decide +kernel
theorem dX10_missing_25 : decode cX10_missing 25 = .ok (.iinc 2 1, 3) := by decide +kernel
theorem dX10_missing_28 : decode cX10_missing 28 = .ok (.goto (-17), 3) := by decide +kernel
theorem dX10_missing_31 : decode cX10_missing 31 = .ok (.iconst 1, 1) := by decide +kernel
theorem dX10_missing_32 : decode cX10_missing 32 = .ok (.aload_n 0, 1) := by decide +kernel
theorem dX10_missing_33 : decode cX10_missing 33 = .ok (.getfield 296, 3) := by decide +kernel
theorem dX10_missing_36 : decode cX10_missing 36 = .ok (.ishl, 1) := by decide +kernel
theorem dX10_missing_37 : decode cX10_missing 37 = .ok (.iconst 1, 1) := by decide +kernel
theorem dX10_missing_38 : decode cX10_missing 38 = .ok (.isub, 1) := by decide +kernel
theorem dX10_missing_39 : decode cX10_missing 39 = .ok (.iload_n 1, 1) := by decide +kernel
theorem dX10_missing_40 : decode cX10_missing 40 = .ok (.iconst (-1), 1) := by decide +kernel
theorem dX10_missing_41 : decode cX10_missing 41 = .ok (.ixor, 1) := by decide +kernel
theorem dX10_missing_42 : decode cX10_missing 42 = .ok (.iand, 1) := by decide +kernel
theorem dX10_missing_43 : decode cX10_missing 43 = .ok (.ireturn, 1) := by decide +kernel
theorem dX10_missed_0 : decode cX10_missed 0 = .ok (.aload_n 0, 1) := by decide +kernel
theorem dX10_missed_1 : decode cX10_missed 1 = .ok (.invokevirtual 314, 3) := by decide +kernel
theorem dX10_missed_4 : decode cX10_missed 4 = .ok (.ireturn, 1) := by decide +kernel
theorem dX10_worst_0 : decode cX10_worst 0 = .ok (.iload_n 1, 1) := by decide +kernel
theorem dX10_worst_1 : decode cX10_worst 1 = .ok (.iconst 0, 1) := by decide +kernel
theorem dX10_worst_2 : decode cX10_worst 2 = .ok (.aload_n 0, 1) := by decide +kernel
theorem dX10_worst_3 : decode cX10_worst 3 = .ok (.getfield 296, 3) := by decide +kernel
theorem dX10_worst_6 : decode cX10_worst 6 = .ok (.iconst 1, 1) := by decide +kernel
theorem dX10_worst_7 : decode cX10_worst 7 = .ok (.isub, 1) := by decide +kernel
theorem dX10_worst_8 : decode cX10_worst 8 = .ok (.invokestatic 114, 3) := by decide +kernel
theorem dX10_worst_11 : decode cX10_worst 11 = .ok (.ifCond .ne 5, 3) := by decide +kernel
theorem dX10_worst_14 : decode cX10_worst 14 = .ok (.iconst (-1), 1) := by decide +kernel
theorem dX10_worst_15 : decode cX10_worst 15 = .ok (.ireturn, 1) := by decide +kernel
theorem dX10_worst_16 : decode cX10_worst 16 = .ok (.iconst 0, 1) := by decide +kernel
theorem dX10_worst_17 : decode cX10_worst 17 = .ok (.istore_n 2, 1) := by decide +kernel
theorem dX10_worst_18 : decode cX10_worst 18 = .ok (.iload_n 2, 1) := by decide +kernel
theorem dX10_worst_19 : decode cX10_worst 19 = .ok (.bipush 9, 2) := by decide +kernel
theorem dX10_worst_21 : decode cX10_worst 21 = .ok (.if_icmp .ge 23, 3) := by decide +kernel
theorem dX10_worst_24 : decode cX10_worst 24 = .ok (.aload_n 0, 1) := by decide +kernel
theorem dX10_worst_25 : decode cX10_worst 25 = .ok (.iload_n 2, 1) := by decide +kernel
theorem dX10_worst_26 : decode cX10_worst 26 = .ok (.invokevirtual 312, 3) := by decide +kernel
theorem dX10_worst_29 : decode cX10_worst 29 = .ok (.iload_n 1, 1) := by decide +kernel
theorem dX10_worst_30 : decode cX10_worst 30 = .ok (.ishr, 1) := by decide +kernel
theorem dX10_worst_31 : decode cX10_worst 31 = .ok (.iconst 1, 1) := by decide +kernel
theorem dX10_worst_32 : decode cX10_worst 32 = .ok (.iand, 1) := by decide +kernel
theorem dX10_worst_33 : decode cX10_worst 33 = .ok (.ifCond .ne 5, 3) := by decide +kernel
theorem dX10_worst_36 : decode cX10_worst 36 = .ok (.iload_n 2, 1) := by decide +kernel
theorem dX10_worst_37 : decode cX10_worst 37 = .ok (.ireturn, 1) := by decide +kernel
theorem dX10_worst_38 : decode cX10_worst 38 = .ok (.iinc 2 1, 3) := by decide +kernel
theorem dX10_worst_41 : decode cX10_worst 41 = .ok (.goto (-23), 3) := by decide +kernel
theorem dX10_worst_44 : decode cX10_worst 44 = .ok (.bipush (-3), 2) := by decide +kernel
theorem dX10_worst_46 : decode cX10_worst 46 = .ok (.ireturn, 1) := by decide +kernel
theorem dX10_holds_0 : decode cX10_holds 0 = .ok (.iload_n 1, 1) := by decide +kernel
theorem dX10_holds_1 : decode cX10_holds 1 = .ok (.invokestatic 162, 3) := by decide +kernel
theorem dX10_holds_4 : decode cX10_holds 4 = .ok (.ifCond .eq 11, 3) := by decide +kernel
theorem dX10_holds_7 : decode cX10_holds 7 = .ok (.aload_n 0, 1) := by decide +kernel
theorem dX10_holds_8 : decode cX10_holds 8 = .ok (.iload_n 1, 1) := by decide +kernel
theorem dX10_holds_9 : decode cX10_holds 9 = .ok (.invokevirtual 312, 3) := by decide +kernel
theorem dX10_holds_12 : decode cX10_holds 12 = .ok (.goto 4, 3) := by decide +kernel
theorem dX10_holds_15 : decode cX10_holds 15 = .ok (.iconst (-1), 1) := by decide +kernel
theorem dX10_holds_16 : decode cX10_holds 16 = .ok (.ireturn, 1) := by decide +kernel
theorem dX10_openMany_0 : decode cX10_openMany 0 = .ok (.iconst 0, 1) := by decide +kernel
theorem dX10_openMany_1 : decode cX10_openMany 1 = .ok (.istore_n 1, 1) := by decide +kernel
theorem dX10_openMany_2 : decode cX10_openMany 2 = .ok (.iconst 0, 1) := by decide +kernel
theorem dX10_openMany_3 : decode cX10_openMany 3 = .ok (.istore_n 2, 1) := by decide +kernel
theorem dX10_openMany_4 : decode cX10_openMany 4 = .ok (.iload_n 2, 1) := by decide +kernel
theorem dX10_openMany_5 : decode cX10_openMany 5 = .ok (.aload_n 0, 1) := by decide +kernel
theorem dX10_openMany_6 : decode cX10_openMany 6 = .ok (.getfield 111, 3) := by decide +kernel
theorem dX10_openMany_9 : decode cX10_openMany 9 = .ok (.if_icmp .ge 30, 3) := by decide +kernel
theorem dX10_openMany_12 : decode cX10_openMany 12 = .ok (.iload_n 1, 1) := by decide +kernel
theorem dX10_openMany_13 : decode cX10_openMany 13 = .ok (.aload_n 0, 1) := by decide +kernel
theorem dX10_openMany_14 : decode cX10_openMany 14 = .ok (.getfield 20, 3) := by decide +kernel
theorem dX10_openMany_17 : decode cX10_openMany 17 = .ok (.iconst 2, 1) := by decide +kernel
theorem dX10_openMany_18 : decode cX10_openMany 18 = .ok (.iload_n 2, 1) := by decide +kernel
theorem dX10_openMany_19 : decode cX10_openMany 19 = .ok (.imul, 1) := by decide +kernel
theorem dX10_openMany_20 : decode cX10_openMany 20 = .ok (.iconst 1, 1) := by decide +kernel
theorem dX10_openMany_21 : decode cX10_openMany 21 = .ok (.iadd, 1) := by decide +kernel
theorem dX10_openMany_22 : decode cX10_openMany 22 = .ok (.iaload, 1) := by decide +kernel
theorem dX10_openMany_23 : decode cX10_openMany 23 = .ok (.ifCond .le 7, 3) := by decide +kernel
theorem dX10_openMany_26 : decode cX10_openMany 26 = .ok (.iconst 1, 1) := by decide +kernel
theorem dX10_openMany_27 : decode cX10_openMany 27 = .ok (.goto 4, 3) := by decide +kernel
theorem dX10_openMany_30 : decode cX10_openMany 30 = .ok (.iconst 0, 1) := by decide +kernel
theorem dX10_openMany_31 : decode cX10_openMany 31 = .ok (.iadd, 1) := by decide +kernel
theorem dX10_openMany_32 : decode cX10_openMany 32 = .ok (.istore_n 1, 1) := by decide +kernel
theorem dX10_openMany_33 : decode cX10_openMany 33 = .ok (.iinc 2 1, 3) := by decide +kernel
theorem dX10_openMany_36 : decode cX10_openMany 36 = .ok (.goto (-32), 3) := by decide +kernel
theorem dX10_openMany_39 : decode cX10_openMany 39 = .ok (.iload_n 1, 1) := by decide +kernel
theorem dX10_openMany_40 : decode cX10_openMany 40 = .ok (.ireturn, 1) := by decide +kernel
theorem dX10_open_0 : decode cX10_open 0 = .ok (.aload_n 0, 1) := by decide +kernel
theorem dX10_open_1 : decode cX10_open 1 = .ok (.iload_n 1, 1) := by decide +kernel
theorem dX10_open_2 : decode cX10_open 2 = .ok (.invokevirtual 134, 3) := by decide +kernel
theorem dX10_open_5 : decode cX10_open 5 = .ok (.ifCond .eq 34, 3) := by decide +kernel
theorem dX10_open_8 : decode cX10_open 8 = .ok (.iload_n 3, 1) := by decide +kernel
theorem dX10_open_9 : decode cX10_open 9 = .ok (.ifCond .eq 32, 3) := by decide +kernel
theorem dX10_open_12 : decode cX10_open 12 = .ok (.iload_n 2, 1) := by decide +kernel
theorem dX10_open_13 : decode cX10_open 13 = .ok (.iconst 1, 1) := by decide +kernel
theorem dX10_open_14 : decode cX10_open 14 = .ok (.bipush 9, 2) := by decide +kernel
theorem dX10_open_16 : decode cX10_open 16 = .ok (.invokestatic 114, 3) := by decide +kernel
theorem dX10_open_19 : decode cX10_open 19 = .ok (.ifCond .eq 20, 3) := by decide +kernel
theorem dX10_open_22 : decode cX10_open 22 = .ok (.iload_n 3, 1) := by decide +kernel
theorem dX10_open_23 : decode cX10_open 23 = .ok (.iload_n 2, 1) := by decide +kernel
theorem dX10_open_24 : decode cX10_open 24 = .ok (.bipush 9, 2) := by decide +kernel
theorem dX10_open_26 : decode cX10_open 26 = .ok (.invokestatic 114, 3) := by decide +kernel
theorem dX10_open_29 : decode cX10_open 29 = .ok (.ifCond .eq 10, 3) := by decide +kernel
theorem dX10_open_32 : decode cX10_open 32 = .ok (.iload_n 3, 1) := by decide +kernel
theorem dX10_open_33 : decode cX10_open 33 = .ok (.iload_n 2, 1) := by decide +kernel
theorem dX10_open_34 : decode cX10_open 34 = .ok (.isub, 1) := by decide +kernel
theorem dX10_open_35 : decode cX10_open 35 = .ok (.iconst 3, 1) := by decide +kernel
theorem dX10_open_36 : decode cX10_open 36 = .ok (.if_icmp .le 5, 3) := by decide +kernel
theorem dX10_open_39 : decode cX10_open 39 = .ok (.iconst (-1), 1) := by decide +kernel
theorem dX10_open_40 : decode cX10_open 40 = .ok (.ireturn, 1) := by decide +kernel
theorem dX10_open_41 : decode cX10_open 41 = .ok (.iload_n 3, 1) := by decide +kernel
theorem dX10_open_42 : decode cX10_open 42 = .ok (.ifCond .eq 27, 3) := by decide +kernel
theorem dX10_open_45 : decode cX10_open 45 = .ok (.aload_n 0, 1) := by decide +kernel
theorem dX10_open_46 : decode cX10_open 46 = .ok (.getfield 20, 3) := by decide +kernel
theorem dX10_open_49 : decode cX10_open 49 = .ok (.iconst 2, 1) := by decide +kernel
theorem dX10_open_50 : decode cX10_open 50 = .ok (.iload_n 1, 1) := by decide +kernel
theorem dX10_open_51 : decode cX10_open 51 = .ok (.imul, 1) := by decide +kernel
theorem dX10_open_52 : decode cX10_open 52 = .ok (.iconst 1, 1) := by decide +kernel
theorem dX10_open_53 : decode cX10_open 53 = .ok (.iadd, 1) := by decide +kernel
theorem dX10_open_54 : decode cX10_open 54 = .ok (.iaload, 1) := by decide +kernel
theorem dX10_open_55 : decode cX10_open 55 = .ok (.ifCond .ne 14, 3) := by decide +kernel
theorem dX10_open_58 : decode cX10_open 58 = .ok (.aload_n 0, 1) := by decide +kernel
theorem dX10_open_59 : decode cX10_open 59 = .ok (.invokevirtual 318, 3) := by decide +kernel
theorem dX10_open_62 : decode cX10_open 62 = .ok (.iconst 4, 1) := by decide +kernel
theorem dX10_open_63 : decode cX10_open 63 = .ok (.if_icmp .ne 6, 3) := by decide +kernel
theorem dX10_open_66 : decode cX10_open 66 = .ok (.bipush (-2), 2) := by decide +kernel
theorem dX10_open_68 : decode cX10_open 68 = .ok (.ireturn, 1) := by decide +kernel
theorem dX10_open_69 : decode cX10_open 69 = .ok (.aload_n 0, 1) := by decide +kernel
theorem dX10_open_70 : decode cX10_open 70 = .ok (.getfield 20, 3) := by decide +kernel
theorem dX10_open_73 : decode cX10_open 73 = .ok (.iconst 2, 1) := by decide +kernel
theorem dX10_open_74 : decode cX10_open 74 = .ok (.iload_n 1, 1) := by decide +kernel
theorem dX10_open_75 : decode cX10_open 75 = .ok (.imul, 1) := by decide +kernel
theorem dX10_open_76 : decode cX10_open 76 = .ok (.iload_n 3, 1) := by decide +kernel
theorem dX10_open_77 : decode cX10_open 77 = .ok (.ifCond .ne 7, 3) := by decide +kernel
theorem dX10_open_80 : decode cX10_open 80 = .ok (.iconst 0, 1) := by decide +kernel
theorem dX10_open_81 : decode cX10_open 81 = .ok (.goto 4, 3) := by decide +kernel
theorem dX10_open_84 : decode cX10_open 84 = .ok (.iload_n 2, 1) := by decide +kernel
theorem dX10_open_85 : decode cX10_open 85 = .ok (.iastore, 1) := by decide +kernel
theorem dX10_open_86 : decode cX10_open 86 = .ok (.aload_n 0, 1) := by decide +kernel
theorem dX10_open_87 : decode cX10_open 87 = .ok (.getfield 20, 3) := by decide +kernel
theorem dX10_open_90 : decode cX10_open 90 = .ok (.iconst 2, 1) := by decide +kernel
theorem dX10_open_91 : decode cX10_open 91 = .ok (.iload_n 1, 1) := by decide +kernel
theorem dX10_open_92 : decode cX10_open 92 = .ok (.imul, 1) := by decide +kernel
theorem dX10_open_93 : decode cX10_open 93 = .ok (.iconst 1, 1) := by decide +kernel
theorem dX10_open_94 : decode cX10_open 94 = .ok (.iadd, 1) := by decide +kernel
theorem dX10_open_95 : decode cX10_open 95 = .ok (.iload_n 3, 1) := by decide +kernel
theorem dX10_open_96 : decode cX10_open 96 = .ok (.iastore, 1) := by decide +kernel
theorem dX10_open_97 : decode cX10_open 97 = .ok (.aload_n 0, 1) := by decide +kernel
theorem dX10_open_98 : decode cX10_open 98 = .ok (.invokevirtual 318, 3) := by decide +kernel
theorem dX10_open_101 : decode cX10_open 101 = .ok (.ireturn, 1) := by decide +kernel
theorem dX10_setSizes_0 : decode cX10_setSizes 0 = .ok (.iconst 0, 1) := by decide +kernel
theorem dX10_setSizes_1 : decode cX10_setSizes 1 = .ok (.istore_n 2, 1) := by decide +kernel
theorem dX10_setSizes_2 : decode cX10_setSizes 2 = .ok (.iload_n 2, 1) := by decide +kernel
theorem dX10_setSizes_3 : decode cX10_setSizes 3 = .ok (.aload_n 0, 1) := by decide +kernel
theorem dX10_setSizes_4 : decode cX10_setSizes 4 = .ok (.getfield 321, 3) := by decide +kernel
theorem dX10_setSizes_7 : decode cX10_setSizes 7 = .ok (.if_icmp .ge 28, 3) := by decide +kernel
theorem dX10_setSizes_10 : decode cX10_setSizes 10 = .ok (.aload_n 0, 1) := by decide +kernel
theorem dX10_setSizes_11 : decode cX10_setSizes 11 = .ok (.getfield 17, 3) := by decide +kernel
theorem dX10_setSizes_14 : decode cX10_setSizes 14 = .ok (.bipush 10, 2) := by decide +kernel
theorem dX10_setSizes_16 : decode cX10_setSizes 16 = .ok (.aload_n 0, 1) := by decide +kernel
theorem dX10_setSizes_17 : decode cX10_setSizes 17 = .ok (.getfield 65, 3) := by decide +kernel
theorem dX10_setSizes_20 : decode cX10_setSizes 20 = .ok (.iload_n 2, 1) := by decide +kernel
theorem dX10_setSizes_21 : decode cX10_setSizes 21 = .ok (.iaload, 1) := by decide +kernel
theorem dX10_setSizes_22 : decode cX10_setSizes 22 = .ok (.imul, 1) := by decide +kernel
theorem dX10_setSizes_23 : decode cX10_setSizes 23 = .ok (.iconst 3, 1) := by decide +kernel
theorem dX10_setSizes_24 : decode cX10_setSizes 24 = .ok (.iadd, 1) := by decide +kernel
theorem dX10_setSizes_25 : decode cX10_setSizes 25 = .ok (.aload_n 1, 1) := by decide +kernel
theorem dX10_setSizes_26 : decode cX10_setSizes 26 = .ok (.iload_n 2, 1) := by decide +kernel
theorem dX10_setSizes_27 : decode cX10_setSizes 27 = .ok (.iaload, 1) := by decide +kernel
theorem dX10_setSizes_28 : decode cX10_setSizes 28 = .ok (.iastore, 1) := by decide +kernel
theorem dX10_setSizes_29 : decode cX10_setSizes 29 = .ok (.iinc 2 1, 3) := by decide +kernel
theorem dX10_setSizes_32 : decode cX10_setSizes 32 = .ok (.goto (-30), 3) := by decide +kernel
theorem dX10_setSizes_35 : decode cX10_setSizes 35 = .ok (.return_, 1) := by decide +kernel
theorem dX10_gather_0 : decode cX10_gather 0 = .ok (.aload_n 0, 1) := by decide +kernel
theorem dX10_gather_1 : decode cX10_gather 1 = .ok (.iconst 0, 1) := by decide +kernel
theorem dX10_gather_2 : decode cX10_gather 2 = .ok (.putfield 321, 3) := by decide +kernel
theorem dX10_gather_5 : decode cX10_gather 5 = .ok (.iconst 0, 1) := by decide +kernel
theorem dX10_gather_6 : decode cX10_gather 6 = .ok (.istore_n 1, 1) := by decide +kernel
theorem dX10_gather_7 : decode cX10_gather 7 = .ok (.iload_n 1, 1) := by decide +kernel
theorem dX10_gather_8 : decode cX10_gather 8 = .ok (.aload_n 0, 1) := by decide +kernel
theorem dX10_gather_9 : decode cX10_gather 9 = .ok (.getfield 111, 3) := by decide +kernel
theorem dX10_gather_12 : decode cX10_gather 12 = .ok (.if_icmp .ge 57, 3) := by decide +kernel
theorem dX10_gather_15 : decode cX10_gather 15 = .ok (.aload_n 0, 1) := by decide +kernel
theorem dX10_gather_16 : decode cX10_gather 16 = .ok (.getfield 20, 3) := by decide +kernel
theorem dX10_gather_19 : decode cX10_gather 19 = .ok (.iconst 2, 1) := by decide +kernel
theorem dX10_gather_20 : decode cX10_gather 20 = .ok (.iload_n 1, 1) := by decide +kernel
theorem dX10_gather_21 : decode cX10_gather 21 = .ok (.imul, 1) := by decide +kernel
theorem dX10_gather_22 : decode cX10_gather 22 = .ok (.iconst 1, 1) := by decide +kernel
theorem dX10_gather_23 : decode cX10_gather 23 = .ok (.iadd, 1) := by decide +kernel
theorem dX10_gather_24 : decode cX10_gather 24 = .ok (.iaload, 1) := by decide +kernel
theorem dX10_gather_25 : decode cX10_gather 25 = .ok (.ifCond .le 38, 3) := by decide +kernel
theorem dX10_gather_28 : decode cX10_gather 28 = .ok (.aload_n 0, 1) := by decide +kernel
theorem dX10_gather_29 : decode cX10_gather 29 = .ok (.getfield 65, 3) := by decide +kernel
theorem dX10_gather_32 : decode cX10_gather 32 = .ok (.aload_n 0, 1) := by decide +kernel
theorem dX10_gather_33 : decode cX10_gather 33 = .ok (.getfield 321, 3) := by decide +kernel
theorem dX10_gather_36 : decode cX10_gather 36 = .ok (.iload_n 1, 1) := by decide +kernel
theorem dX10_gather_37 : decode cX10_gather 37 = .ok (.iastore, 1) := by decide +kernel
theorem dX10_gather_38 : decode cX10_gather 38 = .ok (.aload_n 0, 1) := by decide +kernel
theorem dX10_gather_39 : decode cX10_gather 39 = .ok (.getfield 74, 3) := by decide +kernel
theorem dX10_gather_42 : decode cX10_gather 42 = .ok (.aload_n 0, 1) := by decide +kernel
theorem dX10_gather_43 : decode cX10_gather 43 = .ok (.getfield 321, 3) := by decide +kernel
theorem dX10_gather_46 : decode cX10_gather 46 = .ok (.aload_n 0, 1) := by decide +kernel
theorem dX10_gather_47 : decode cX10_gather 47 = .ok (.iload_n 1, 1) := by decide +kernel
theorem dX10_gather_48 : decode cX10_gather 48 = .ok (.iconst 3, 1) := by decide +kernel
theorem dX10_gather_49 : decode cX10_gather 49 = .ok (.invokevirtual 137, 3) := by decide +kernel
theorem dX10_gather_52 : decode cX10_gather 52 = .ok (.iastore, 1) := by decide +kernel
theorem dX10_gather_53 : decode cX10_gather 53 = .ok (.aload_n 0, 1) := by decide +kernel
theorem dX10_gather_54 : decode cX10_gather 54 = .ok (.dup, 1) := by decide +kernel
theorem dX10_gather_55 : decode cX10_gather 55 = .ok (.getfield 321, 3) := by decide +kernel
theorem dX10_gather_58 : decode cX10_gather 58 = .ok (.iconst 1, 1) := by decide +kernel
theorem dX10_gather_59 : decode cX10_gather 59 = .ok (.iadd, 1) := by decide +kernel
theorem dX10_gather_60 : decode cX10_gather 60 = .ok (.putfield 321, 3) := by decide +kernel
theorem dX10_gather_63 : decode cX10_gather 63 = .ok (.iinc 1 1, 3) := by decide +kernel
theorem dX10_gather_66 : decode cX10_gather 66 = .ok (.goto (-59), 3) := by decide +kernel
theorem dX10_gather_69 : decode cX10_gather 69 = .ok (.return_, 1) := by decide +kernel
theorem dX10_rises_0 : decode cX10_rises 0 = .ok (.aload_n 0, 1) := by decide +kernel
theorem dX10_rises_1 : decode cX10_rises 1 = .ok (.getfield 321, 3) := by decide +kernel
theorem dX10_rises_4 : decode cX10_rises 4 = .ok (.iconst 1, 1) := by decide +kernel
theorem dX10_rises_5 : decode cX10_rises 5 = .ok (.isub, 1) := by decide +kernel
theorem dX10_rises_6 : decode cX10_rises 6 = .ok (.istore_n 1, 1) := by decide +kernel
theorem dX10_rises_7 : decode cX10_rises 7 = .ok (.iload_n 1, 1) := by decide +kernel
theorem dX10_rises_8 : decode cX10_rises 8 = .ok (.ifCond .lt 52, 3) := by decide +kernel
theorem dX10_rises_11 : decode cX10_rises 11 = .ok (.aload_n 0, 1) := by decide +kernel
theorem dX10_rises_12 : decode cX10_rises 12 = .ok (.getfield 68, 3) := by decide +kernel
theorem dX10_rises_15 : decode cX10_rises 15 = .ok (.iload_n 1, 1) := by decide +kernel
theorem dX10_rises_16 : decode cX10_rises 16 = .ok (.iaload, 1) := by decide +kernel
theorem dX10_rises_17 : decode cX10_rises 17 = .ok (.aload_n 0, 1) := by decide +kernel
theorem dX10_rises_18 : decode cX10_rises 18 = .ok (.getfield 20, 3) := by decide +kernel
theorem dX10_rises_21 : decode cX10_rises 21 = .ok (.iconst 2, 1) := by decide +kernel
theorem dX10_rises_22 : decode cX10_rises 22 = .ok (.aload_n 0, 1) := by decide +kernel
theorem dX10_rises_23 : decode cX10_rises 23 = .ok (.getfield 65, 3) := by decide +kernel
theorem dX10_rises_26 : decode cX10_rises 26 = .ok (.iload_n 1, 1) := by decide +kernel
theorem dX10_rises_27 : decode cX10_rises 27 = .ok (.iaload, 1) := by decide +kernel
theorem dX10_rises_28 : decode cX10_rises 28 = .ok (.imul, 1) := by decide +kernel
theorem dX10_rises_29 : decode cX10_rises 29 = .ok (.iconst 1, 1) := by decide +kernel
theorem dX10_rises_30 : decode cX10_rises 30 = .ok (.iadd, 1) := by decide +kernel
theorem dX10_rises_31 : decode cX10_rises 31 = .ok (.iaload, 1) := by decide +kernel
theorem dX10_rises_32 : decode cX10_rises 32 = .ok (.if_icmp .ne 28, 3) := by decide +kernel
theorem dX10_rises_35 : decode cX10_rises 35 = .ok (.aload_n 0, 1) := by decide +kernel
theorem dX10_rises_36 : decode cX10_rises 36 = .ok (.getfield 68, 3) := by decide +kernel
theorem dX10_rises_39 : decode cX10_rises 39 = .ok (.iload_n 1, 1) := by decide +kernel
theorem dX10_rises_40 : decode cX10_rises 40 = .ok (.aload_n 0, 1) := by decide +kernel
theorem dX10_rises_41 : decode cX10_rises 41 = .ok (.getfield 20, 3) := by decide +kernel
theorem dX10_rises_44 : decode cX10_rises 44 = .ok (.iconst 2, 1) := by decide +kernel
theorem dX10_rises_45 : decode cX10_rises 45 = .ok (.aload_n 0, 1) := by decide +kernel
theorem dX10_rises_46 : decode cX10_rises 46 = .ok (.getfield 65, 3) := by decide +kernel
theorem dX10_rises_49 : decode cX10_rises 49 = .ok (.iload_n 1, 1) := by decide +kernel
theorem dX10_rises_50 : decode cX10_rises 50 = .ok (.iaload, 1) := by decide +kernel
theorem dX10_rises_51 : decode cX10_rises 51 = .ok (.imul, 1) := by decide +kernel
theorem dX10_rises_52 : decode cX10_rises 52 = .ok (.iaload, 1) := by decide +kernel
theorem dX10_rises_53 : decode cX10_rises 53 = .ok (.iastore, 1) := by decide +kernel
theorem dX10_rises_54 : decode cX10_rises 54 = .ok (.iinc 1 (-1), 3) := by decide +kernel
theorem dX10_rises_57 : decode cX10_rises 57 = .ok (.goto (-50), 3) := by decide +kernel
theorem dX10_rises_60 : decode cX10_rises 60 = .ok (.iload_n 1, 1) := by decide +kernel
theorem dX10_rises_61 : decode cX10_rises 61 = .ok (.ifCond .ge 5, 3) := by decide +kernel
theorem dX10_rises_64 : decode cX10_rises 64 = .ok (.iconst 0, 1) := by decide +kernel
theorem dX10_rises_65 : decode cX10_rises 65 = .ok (.ireturn, 1) := by decide +kernel
theorem dX10_rises_66 : decode cX10_rises 66 = .ok (.aload_n 0, 1) := by decide +kernel
theorem dX10_rises_67 : decode cX10_rises 67 = .ok (.getfield 68, 3) := by decide +kernel
theorem dX10_rises_70 : decode cX10_rises 70 = .ok (.iload_n 1, 1) := by decide +kernel
theorem dX10_rises_71 : decode cX10_rises 71 = .ok (.dup2, 1) := by decide +kernel
theorem dX10_rises_72 : decode cX10_rises 72 = .ok (.iaload, 1) := by decide +kernel
theorem dX10_rises_73 : decode cX10_rises 73 = .ok (.iconst 1, 1) := by decide +kernel
theorem dX10_rises_74 : decode cX10_rises 74 = .ok (.iadd, 1) := by decide +kernel
theorem dX10_rises_75 : decode cX10_rises 75 = .ok (.iastore, 1) := by decide +kernel
theorem dX10_rises_76 : decode cX10_rises 76 = .ok (.iconst 1, 1) := by decide +kernel
theorem dX10_rises_77 : decode cX10_rises 77 = .ok (.ireturn, 1) := by decide +kernel
theorem dX10_findSizing_0 : decode cX10_findSizing 0 = .ok (.aload_n 0, 1) := by decide +kernel
theorem dX10_findSizing_1 : decode cX10_findSizing 1 = .ok (.invokevirtual 324, 3) := by decide +kernel
theorem dX10_findSizing_4 : decode cX10_findSizing 4 = .ok (.iconst 0, 1) := by decide +kernel
theorem dX10_findSizing_5 : decode cX10_findSizing 5 = .ok (.istore_n 1, 1) := by decide +kernel
theorem dX10_findSizing_6 : decode cX10_findSizing 6 = .ok (.iload_n 1, 1) := by decide +kernel
theorem dX10_findSizing_7 : decode cX10_findSizing 7 = .ok (.aload_n 0, 1) := by decide +kernel
theorem dX10_findSizing_8 : decode cX10_findSizing 8 = .ok (.getfield 321, 3) := by decide +kernel
theorem dX10_findSizing_11 : decode cX10_findSizing 11 = .ok (.if_icmp .ge 28, 3) := by decide +kernel
theorem dX10_findSizing_14 : decode cX10_findSizing 14 = .ok (.aload_n 0, 1) := by decide +kernel
theorem dX10_findSizing_15 : decode cX10_findSizing 15 = .ok (.getfield 68, 3) := by decide +kernel
theorem dX10_findSizing_18 : decode cX10_findSizing 18 = .ok (.iload_n 1, 1) := by decide +kernel
theorem dX10_findSizing_19 : decode cX10_findSizing 19 = .ok (.aload_n 0, 1) := by decide +kernel
theorem dX10_findSizing_20 : decode cX10_findSizing 20 = .ok (.getfield 20, 3) := by decide +kernel
theorem dX10_findSizing_23 : decode cX10_findSizing 23 = .ok (.iconst 2, 1) := by decide +kernel
theorem dX10_findSizing_24 : decode cX10_findSizing 24 = .ok (.aload_n 0, 1) := by decide +kernel
theorem dX10_findSizing_25 : decode cX10_findSizing 25 = .ok (.getfield 65, 3) := by decide +kernel
theorem dX10_findSizing_28 : decode cX10_findSizing 28 = .ok (.iload_n 1, 1) := by decide +kernel
theorem dX10_findSizing_29 : decode cX10_findSizing 29 = .ok (.iaload, 1) := by decide +kernel
theorem dX10_findSizing_30 : decode cX10_findSizing 30 = .ok (.imul, 1) := by decide +kernel
theorem dX10_findSizing_31 : decode cX10_findSizing 31 = .ok (.iaload, 1) := by decide +kernel
theorem dX10_findSizing_32 : decode cX10_findSizing 32 = .ok (.iastore, 1) := by decide +kernel
theorem dX10_findSizing_33 : decode cX10_findSizing 33 = .ok (.iinc 1 1, 3) := by decide +kernel
theorem dX10_findSizing_36 : decode cX10_findSizing 36 = .ok (.goto (-30), 3) := by decide +kernel
theorem dX10_findSizing_39 : decode cX10_findSizing 39 = .ok (.aload_n 0, 1) := by decide +kernel
theorem dX10_findSizing_40 : decode cX10_findSizing 40 = .ok (.iconst (-1), 1) := by decide +kernel
theorem dX10_findSizing_41 : decode cX10_findSizing 41 = .ok (.putfield 327, 3) := by decide +kernel
theorem dX10_findSizing_44 : decode cX10_findSizing 44 = .ok (.iconst 1, 1) := by decide +kernel
theorem dX10_findSizing_45 : decode cX10_findSizing 45 = .ok (.istore_n 1, 1) := by decide +kernel
theorem dX10_findSizing_46 : decode cX10_findSizing 46 = .ok (.iload_n 1, 1) := by decide +kernel
theorem dX10_findSizing_47 : decode cX10_findSizing 47 = .ok (.ifCond .eq 101, 3) := by decide +kernel
theorem dX10_findSizing_50 : decode cX10_findSizing 50 = .ok (.iconst 0, 1) := by decide +kernel
theorem dX10_findSizing_51 : decode cX10_findSizing 51 = .ok (.istore_n 2, 1) := by decide +kernel
theorem dX10_findSizing_52 : decode cX10_findSizing 52 = .ok (.iconst 0, 1) := by decide +kernel
theorem dX10_findSizing_53 : decode cX10_findSizing 53 = .ok (.istore_n 3, 1) := by decide +kernel
theorem dX10_findSizing_54 : decode cX10_findSizing 54 = .ok (.iload_n 3, 1) := by decide +kernel
theorem dX10_findSizing_55 : decode cX10_findSizing 55 = .ok (.aload_n 0, 1) := by decide +kernel
theorem dX10_findSizing_56 : decode cX10_findSizing 56 = .ok (.getfield 321, 3) := by decide +kernel
theorem dX10_findSizing_59 : decode cX10_findSizing 59 = .ok (.if_icmp .ge 18, 3) := by decide +kernel
theorem dX10_findSizing_62 : decode cX10_findSizing 62 = .ok (.iload_n 2, 1) := by decide +kernel
theorem dX10_findSizing_63 : decode cX10_findSizing 63 = .ok (.aload_n 0, 1) := by decide +kernel
theorem dX10_findSizing_64 : decode cX10_findSizing 64 = .ok (.getfield 68, 3) := by decide +kernel
theorem dX10_findSizing_67 : decode cX10_findSizing 67 = .ok (.iload_n 3, 1) := by decide +kernel
theorem dX10_findSizing_68 : decode cX10_findSizing 68 = .ok (.iaload, 1) := by decide +kernel
theorem dX10_findSizing_69 : decode cX10_findSizing 69 = .ok (.iadd, 1) := by decide +kernel
theorem dX10_findSizing_70 : decode cX10_findSizing 70 = .ok (.istore_n 2, 1) := by decide +kernel
theorem dX10_findSizing_71 : decode cX10_findSizing 71 = .ok (.iinc 3 1, 3) := by decide +kernel
theorem dX10_findSizing_74 : decode cX10_findSizing 74 = .ok (.goto (-20), 3) := by decide +kernel
theorem dX10_findSizing_77 : decode cX10_findSizing 77 = .ok (.aload_n 0, 1) := by decide +kernel
theorem dX10_findSizing_78 : decode cX10_findSizing 78 = .ok (.getfield 327, 3) := by decide +kernel
theorem dX10_findSizing_81 : decode cX10_findSizing 81 = .ok (.ifCond .lt 11, 3) := by decide +kernel
theorem dX10_findSizing_84 : decode cX10_findSizing 84 = .ok (.iload_n 2, 1) := by decide +kernel
theorem dX10_findSizing_85 : decode cX10_findSizing 85 = .ok (.aload_n 0, 1) := by decide +kernel
theorem dX10_findSizing_86 : decode cX10_findSizing 86 = .ok (.getfield 327, 3) := by decide +kernel
theorem dX10_findSizing_89 : decode cX10_findSizing 89 = .ok (.if_icmp .ge 51, 3) := by decide +kernel
theorem dX10_findSizing_92 : decode cX10_findSizing 92 = .ok (.aload_n 0, 1) := by decide +kernel
theorem dX10_findSizing_93 : decode cX10_findSizing 93 = .ok (.aload_n 0, 1) := by decide +kernel
theorem dX10_findSizing_94 : decode cX10_findSizing 94 = .ok (.getfield 68, 3) := by decide +kernel
theorem dX10_findSizing_97 : decode cX10_findSizing 97 = .ok (.invokevirtual 330, 3) := by decide +kernel
theorem dX10_findSizing_100 : decode cX10_findSizing 100 = .ok (.aload_n 0, 1) := by decide +kernel
theorem dX10_findSizing_101 : decode cX10_findSizing 101 = .ok (.invokevirtual 314, 3) := by decide +kernel
theorem dX10_findSizing_104 : decode cX10_findSizing 104 = .ok (.ifCond .ne 36, 3) := by decide +kernel
theorem dX10_findSizing_107 : decode cX10_findSizing 107 = .ok (.aload_n 0, 1) := by decide +kernel
theorem dX10_findSizing_108 : decode cX10_findSizing 108 = .ok (.iload_n 2, 1) := by decide +kernel
theorem dX10_findSizing_109 : decode cX10_findSizing 109 = .ok (.putfield 327, 3) := by decide +kernel
theorem dX10_findSizing_112 : decode cX10_findSizing 112 = .ok (.iconst 0, 1) := by decide +kernel
theorem dX10_findSizing_113 : decode cX10_findSizing 113 = .ok (.istore_n 3, 1) := by decide +kernel
theorem dX10_findSizing_114 : decode cX10_findSizing 114 = .ok (.iload_n 3, 1) := by decide +kernel
theorem dX10_findSizing_115 : decode cX10_findSizing 115 = .ok (.aload_n 0, 1) := by decide +kernel
theorem dX10_findSizing_116 : decode cX10_findSizing 116 = .ok (.getfield 321, 3) := by decide +kernel
theorem dX10_findSizing_119 : decode cX10_findSizing 119 = .ok (.if_icmp .ge 21, 3) := by decide +kernel
theorem dX10_findSizing_122 : decode cX10_findSizing 122 = .ok (.aload_n 0, 1) := by decide +kernel
theorem dX10_findSizing_123 : decode cX10_findSizing 123 = .ok (.getfield 71, 3) := by decide +kernel
theorem dX10_findSizing_126 : decode cX10_findSizing 126 = .ok (.iload_n 3, 1) := by decide +kernel
theorem dX10_findSizing_127 : decode cX10_findSizing 127 = .ok (.aload_n 0, 1) := by decide +kernel
theorem dX10_findSizing_128 : decode cX10_findSizing 128 = .ok (.getfield 68, 3) := by decide +kernel
theorem dX10_findSizing_131 : decode cX10_findSizing 131 = .ok (.iload_n 3, 1) := by decide +kernel
theorem dX10_findSizing_132 : decode cX10_findSizing 132 = .ok (.iaload, 1) := by decide +kernel
theorem dX10_findSizing_133 : decode cX10_findSizing 133 = .ok (.iastore, 1) := by decide +kernel
theorem dX10_findSizing_134 : decode cX10_findSizing 134 = .ok (.iinc 3 1, 3) := by decide +kernel
theorem dX10_findSizing_137 : decode cX10_findSizing 137 = .ok (.goto (-23), 3) := by decide +kernel
theorem dX10_findSizing_140 : decode cX10_findSizing 140 = .ok (.aload_n 0, 1) := by decide +kernel
theorem dX10_findSizing_141 : decode cX10_findSizing 141 = .ok (.invokevirtual 334, 3) := by decide +kernel
theorem dX10_findSizing_144 : decode cX10_findSizing 144 = .ok (.istore_n 1, 1) := by decide +kernel
theorem dX10_findSizing_145 : decode cX10_findSizing 145 = .ok (.goto (-99), 3) := by decide +kernel
theorem dX10_findSizing_148 : decode cX10_findSizing 148 = .ok (.aload_n 0, 1) := by decide +kernel
theorem dX10_findSizing_149 : decode cX10_findSizing 149 = .ok (.aload_n 0, 1) := by decide +kernel
theorem dX10_findSizing_150 : decode cX10_findSizing 150 = .ok (.getfield 74, 3) := by decide +kernel
theorem dX10_findSizing_153 : decode cX10_findSizing 153 = .ok (.invokevirtual 330, 3) := by decide +kernel
theorem dX10_findSizing_156 : decode cX10_findSizing 156 = .ok (.aload_n 0, 1) := by decide +kernel
theorem dX10_findSizing_157 : decode cX10_findSizing 157 = .ok (.getfield 327, 3) := by decide +kernel
theorem dX10_findSizing_160 : decode cX10_findSizing 160 = .ok (.ifCond .lt 7, 3) := by decide +kernel
theorem dX10_findSizing_163 : decode cX10_findSizing 163 = .ok (.iconst 1, 1) := by decide +kernel
theorem dX10_findSizing_164 : decode cX10_findSizing 164 = .ok (.goto 4, 3) := by decide +kernel
theorem dX10_findSizing_167 : decode cX10_findSizing 167 = .ok (.iconst 0, 1) := by decide +kernel
theorem dX10_findSizing_168 : decode cX10_findSizing 168 = .ok (.ireturn, 1) := by decide +kernel
theorem dX10_sizing_0 : decode cX10_sizing 0 = .ok (.iload_n 1, 1) := by decide +kernel
theorem dX10_sizing_1 : decode cX10_sizing 1 = .ok (.iconst (-1), 1) := by decide +kernel
theorem dX10_sizing_2 : decode cX10_sizing 2 = .ok (.aload_n 0, 1) := by decide +kernel
theorem dX10_sizing_3 : decode cX10_sizing 3 = .ok (.invokevirtual 318, 3) := by decide +kernel
theorem dX10_sizing_6 : decode cX10_sizing 6 = .ok (.iconst 1, 1) := by decide +kernel
theorem dX10_sizing_7 : decode cX10_sizing 7 = .ok (.isub, 1) := by decide +kernel
theorem dX10_sizing_8 : decode cX10_sizing 8 = .ok (.invokestatic 114, 3) := by decide +kernel
theorem dX10_sizing_11 : decode cX10_sizing 11 = .ok (.ifCond .ne 5, 3) := by decide +kernel
theorem dX10_sizing_14 : decode cX10_sizing 14 = .ok (.iconst (-1), 1) := by decide +kernel
theorem dX10_sizing_15 : decode cX10_sizing 15 = .ok (.ireturn, 1) := by decide +kernel
theorem dX10_sizing_16 : decode cX10_sizing 16 = .ok (.aload_n 0, 1) := by decide +kernel
theorem dX10_sizing_17 : decode cX10_sizing 17 = .ok (.invokevirtual 337, 3) := by decide +kernel
theorem dX10_sizing_20 : decode cX10_sizing 20 = .ok (.ifCond .ne 6, 3) := by decide +kernel
theorem dX10_sizing_23 : decode cX10_sizing 23 = .ok (.bipush (-3), 2) := by decide +kernel
theorem dX10_sizing_25 : decode cX10_sizing 25 = .ok (.ireturn, 1) := by decide +kernel
theorem dX10_sizing_26 : decode cX10_sizing 26 = .ok (.iload_n 1, 1) := by decide +kernel
theorem dX10_sizing_27 : decode cX10_sizing 27 = .ok (.ifCond .ge 10, 3) := by decide +kernel
theorem dX10_sizing_30 : decode cX10_sizing 30 = .ok (.aload_n 0, 1) := by decide +kernel
theorem dX10_sizing_31 : decode cX10_sizing 31 = .ok (.getfield 327, 3) := by decide +kernel
theorem dX10_sizing_34 : decode cX10_sizing 34 = .ok (.goto 9, 3) := by decide +kernel
theorem dX10_sizing_37 : decode cX10_sizing 37 = .ok (.aload_n 0, 1) := by decide +kernel
theorem dX10_sizing_38 : decode cX10_sizing 38 = .ok (.getfield 71, 3) := by decide +kernel
theorem dX10_sizing_41 : decode cX10_sizing 41 = .ok (.iload_n 1, 1) := by decide +kernel
theorem dX10_sizing_42 : decode cX10_sizing 42 = .ok (.iaload, 1) := by decide +kernel
theorem dX10_sizing_43 : decode cX10_sizing 43 = .ok (.ireturn, 1) := by decide +kernel
theorem dX10_prove_0 : decode cX10_prove 0 = .ok (.aload_n 0, 1) := by decide +kernel
theorem dX10_prove_1 : decode cX10_prove 1 = .ok (.invokevirtual 337, 3) := by decide +kernel
theorem dX10_prove_4 : decode cX10_prove 4 = .ok (.ifCond .ne 6, 3) := by decide +kernel
theorem dX10_prove_7 : decode cX10_prove 7 = .ok (.bipush (-3), 2) := by decide +kernel
theorem dX10_prove_9 : decode cX10_prove 9 = .ok (.ireturn, 1) := by decide +kernel
theorem dX10_prove_10 : decode cX10_prove 10 = .ok (.aload_n 0, 1) := by decide +kernel
theorem dX10_prove_11 : decode cX10_prove 11 = .ok (.aload_n 0, 1) := by decide +kernel
theorem dX10_prove_12 : decode cX10_prove 12 = .ok (.getfield 321, 3) := by decide +kernel
theorem dX10_prove_15 : decode cX10_prove 15 = .ok (.putfield 340, 3) := by decide +kernel
theorem dX10_prove_18 : decode cX10_prove 18 = .ok (.iconst 0, 1) := by decide +kernel
theorem dX10_prove_19 : decode cX10_prove 19 = .ok (.istore_n 1, 1) := by decide +kernel
theorem dX10_prove_20 : decode cX10_prove 20 = .ok (.iload_n 1, 1) := by decide +kernel
theorem dX10_prove_21 : decode cX10_prove 21 = .ok (.aload_n 0, 1) := by decide +kernel
theorem dX10_prove_22 : decode cX10_prove 22 = .ok (.getfield 321, 3) := by decide +kernel
theorem dX10_prove_25 : decode cX10_prove 25 = .ok (.if_icmp .ge 39, 3) := by decide +kernel
theorem dX10_prove_28 : decode cX10_prove 28 = .ok (.aload_n 0, 1) := by decide +kernel
theorem dX10_prove_29 : decode cX10_prove 29 = .ok (.getfield 77, 3) := by decide +kernel
theorem dX10_prove_32 : decode cX10_prove 32 = .ok (.iconst 2, 1) := by decide +kernel
theorem dX10_prove_33 : decode cX10_prove 33 = .ok (.iload_n 1, 1) := by decide +kernel
theorem dX10_prove_34 : decode cX10_prove 34 = .ok (.imul, 1) := by decide +kernel
theorem dX10_prove_35 : decode cX10_prove 35 = .ok (.aload_n 0, 1) := by decide +kernel
theorem dX10_prove_36 : decode cX10_prove 36 = .ok (.getfield 65, 3) := by decide +kernel
theorem dX10_prove_39 : decode cX10_prove 39 = .ok (.iload_n 1, 1) := by decide +kernel
theorem dX10_prove_40 : decode cX10_prove 40 = .ok (.iaload, 1) := by decide +kernel
theorem dX10_prove_41 : decode cX10_prove 41 = .ok (.iastore, 1) := by decide +kernel
theorem dX10_prove_42 : decode cX10_prove 42 = .ok (.aload_n 0, 1) := by decide +kernel
theorem dX10_prove_43 : decode cX10_prove 43 = .ok (.getfield 77, 3) := by decide +kernel
theorem dX10_prove_46 : decode cX10_prove 46 = .ok (.iconst 2, 1) := by decide +kernel
theorem dX10_prove_47 : decode cX10_prove 47 = .ok (.iload_n 1, 1) := by decide +kernel
theorem dX10_prove_48 : decode cX10_prove 48 = .ok (.imul, 1) := by decide +kernel
theorem dX10_prove_49 : decode cX10_prove 49 = .ok (.iconst 1, 1) := by decide +kernel
theorem dX10_prove_50 : decode cX10_prove 50 = .ok (.iadd, 1) := by decide +kernel
theorem dX10_prove_51 : decode cX10_prove 51 = .ok (.aload_n 0, 1) := by decide +kernel
theorem dX10_prove_52 : decode cX10_prove 52 = .ok (.getfield 71, 3) := by decide +kernel
theorem dX10_prove_55 : decode cX10_prove 55 = .ok (.iload_n 1, 1) := by decide +kernel
theorem dX10_prove_56 : decode cX10_prove 56 = .ok (.iaload, 1) := by decide +kernel
theorem dX10_prove_57 : decode cX10_prove 57 = .ok (.iastore, 1) := by decide +kernel
theorem dX10_prove_58 : decode cX10_prove 58 = .ok (.iinc 1 1, 3) := by decide +kernel
theorem dX10_prove_61 : decode cX10_prove 61 = .ok (.goto (-41), 3) := by decide +kernel
theorem dX10_prove_64 : decode cX10_prove 64 = .ok (.aload_n 0, 1) := by decide +kernel
theorem dX10_prove_65 : decode cX10_prove 65 = .ok (.getfield 340, 3) := by decide +kernel
theorem dX10_prove_68 : decode cX10_prove 68 = .ok (.ireturn, 1) := by decide +kernel
theorem dX10_isRow_0 : decode cX10_isRow 0 = .ok (.iload_n 1, 1) := by decide +kernel
theorem dX10_isRow_1 : decode cX10_isRow 1 = .ok (.iconst 0, 1) := by decide +kernel
theorem dX10_isRow_2 : decode cX10_isRow 2 = .ok (.aload_n 0, 1) := by decide +kernel
theorem dX10_isRow_3 : decode cX10_isRow 3 = .ok (.getfield 340, 3) := by decide +kernel
theorem dX10_isRow_6 : decode cX10_isRow 6 = .ok (.iconst 1, 1) := by decide +kernel
theorem dX10_isRow_7 : decode cX10_isRow 7 = .ok (.isub, 1) := by decide +kernel
theorem dX10_isRow_8 : decode cX10_isRow 8 = .ok (.invokestatic 114, 3) := by decide +kernel
theorem dX10_isRow_11 : decode cX10_isRow 11 = .ok (.ifCond .eq 16, 3) := by decide +kernel
theorem dX10_isRow_14 : decode cX10_isRow 14 = .ok (.iload_n 2, 1) := by decide +kernel
theorem dX10_isRow_15 : decode cX10_isRow 15 = .ok (.iconst 0, 1) := by decide +kernel
theorem dX10_isRow_16 : decode cX10_isRow 16 = .ok (.iconst 1, 1) := by decide +kernel
theorem dX10_isRow_17 : decode cX10_isRow 17 = .ok (.invokestatic 114, 3) := by decide +kernel
theorem dX10_isRow_20 : decode cX10_isRow 20 = .ok (.ifCond .eq 7, 3) := by decide +kernel
theorem dX10_isRow_23 : decode cX10_isRow 23 = .ok (.iconst 1, 1) := by decide +kernel
theorem dX10_isRow_24 : decode cX10_isRow 24 = .ok (.goto 4, 3) := by decide +kernel
theorem dX10_isRow_27 : decode cX10_isRow 27 = .ok (.iconst 0, 1) := by decide +kernel
theorem dX10_isRow_28 : decode cX10_isRow 28 = .ok (.ireturn, 1) := by decide +kernel
theorem dX10_row_0 : decode cX10_row 0 = .ok (.aload_n 0, 1) := by decide +kernel
theorem dX10_row_1 : decode cX10_row 1 = .ok (.iload_n 1, 1) := by decide +kernel
theorem dX10_row_2 : decode cX10_row 2 = .ok (.iload_n 2, 1) := by decide +kernel
theorem dX10_row_3 : decode cX10_row 3 = .ok (.invokevirtual 343, 3) := by decide +kernel
theorem dX10_row_6 : decode cX10_row 6 = .ok (.ifCond .eq 16, 3) := by decide +kernel
theorem dX10_row_9 : decode cX10_row 9 = .ok (.aload_n 0, 1) := by decide +kernel
theorem dX10_row_10 : decode cX10_row 10 = .ok (.getfield 77, 3) := by decide +kernel
theorem dX10_row_13 : decode cX10_row 13 = .ok (.iconst 2, 1) := by decide +kernel
theorem dX10_row_14 : decode cX10_row 14 = .ok (.iload_n 1, 1) := by decide +kernel
theorem dX10_row_15 : decode cX10_row 15 = .ok (.imul, 1) := by decide +kernel
theorem dX10_row_16 : decode cX10_row 16 = .ok (.iload_n 2, 1) := by decide +kernel
theorem dX10_row_17 : decode cX10_row 17 = .ok (.iadd, 1) := by decide +kernel
theorem dX10_row_18 : decode cX10_row 18 = .ok (.iaload, 1) := by decide +kernel
theorem dX10_row_19 : decode cX10_row 19 = .ok (.goto 5, 3) := by decide +kernel
theorem dX10_row_22 : decode cX10_row 22 = .ok (.bipush (-9), 2) := by decide +kernel
theorem dX10_row_24 : decode cX10_row 24 = .ok (.ireturn, 1) := by decide +kernel
theorem dX10_alterRow_0 : decode cX10_alterRow 0 = .ok (.aload_n 0, 1) := by decide +kernel
theorem dX10_alterRow_1 : decode cX10_alterRow 1 = .ok (.iload_n 1, 1) := by decide +kernel
theorem dX10_alterRow_2 : decode cX10_alterRow 2 = .ok (.iload_n 2, 1) := by decide +kernel
theorem dX10_alterRow_3 : decode cX10_alterRow 3 = .ok (.invokevirtual 343, 3) := by decide +kernel
theorem dX10_alterRow_6 : decode cX10_alterRow 6 = .ok (.ifCond .ne 6, 3) := by decide +kernel
theorem dX10_alterRow_9 : decode cX10_alterRow 9 = .ok (.bipush (-9), 2) := by decide +kernel
theorem dX10_alterRow_11 : decode cX10_alterRow 11 = .ok (.ireturn, 1) := by decide +kernel
theorem dX10_alterRow_12 : decode cX10_alterRow 12 = .ok (.aload_n 0, 1) := by decide +kernel
theorem dX10_alterRow_13 : decode cX10_alterRow 13 = .ok (.getfield 77, 3) := by decide +kernel
theorem dX10_alterRow_16 : decode cX10_alterRow 16 = .ok (.iconst 2, 1) := by decide +kernel
theorem dX10_alterRow_17 : decode cX10_alterRow 17 = .ok (.iload_n 1, 1) := by decide +kernel
theorem dX10_alterRow_18 : decode cX10_alterRow 18 = .ok (.imul, 1) := by decide +kernel
theorem dX10_alterRow_19 : decode cX10_alterRow 19 = .ok (.iload_n 2, 1) := by decide +kernel
theorem dX10_alterRow_20 : decode cX10_alterRow 20 = .ok (.iadd, 1) := by decide +kernel
theorem dX10_alterRow_21 : decode cX10_alterRow 21 = .ok (.iaload, 1) := by decide +kernel
theorem dX10_alterRow_22 : decode cX10_alterRow 22 = .ok (.istore 4, 2) := by decide +kernel
theorem dX10_alterRow_24 : decode cX10_alterRow 24 = .ok (.aload_n 0, 1) := by decide +kernel
theorem dX10_alterRow_25 : decode cX10_alterRow 25 = .ok (.getfield 77, 3) := by decide +kernel
theorem dX10_alterRow_28 : decode cX10_alterRow 28 = .ok (.iconst 2, 1) := by decide +kernel
theorem dX10_alterRow_29 : decode cX10_alterRow 29 = .ok (.iload_n 1, 1) := by decide +kernel
theorem dX10_alterRow_30 : decode cX10_alterRow 30 = .ok (.imul, 1) := by decide +kernel
theorem dX10_alterRow_31 : decode cX10_alterRow 31 = .ok (.iload_n 2, 1) := by decide +kernel
theorem dX10_alterRow_32 : decode cX10_alterRow 32 = .ok (.iadd, 1) := by decide +kernel
theorem dX10_alterRow_33 : decode cX10_alterRow 33 = .ok (.iload_n 3, 1) := by decide +kernel
theorem dX10_alterRow_34 : decode cX10_alterRow 34 = .ok (.iastore, 1) := by decide +kernel
theorem dX10_alterRow_35 : decode cX10_alterRow 35 = .ok (.iload 4, 2) := by decide +kernel
theorem dX10_alterRow_37 : decode cX10_alterRow 37 = .ok (.ireturn, 1) := by decide +kernel
theorem dX10_judge_0 : decode cX10_judge 0 = .ok (.aload_n 0, 1) := by decide +kernel
theorem dX10_judge_1 : decode cX10_judge 1 = .ok (.invokevirtual 324, 3) := by decide +kernel
theorem dX10_judge_4 : decode cX10_judge 4 = .ok (.iconst 0, 1) := by decide +kernel
theorem dX10_judge_5 : decode cX10_judge 5 = .ok (.istore_n 1, 1) := by decide +kernel
theorem dX10_judge_6 : decode cX10_judge 6 = .ok (.iload_n 1, 1) := by decide +kernel
theorem dX10_judge_7 : decode cX10_judge 7 = .ok (.aload_n 0, 1) := by decide +kernel
theorem dX10_judge_8 : decode cX10_judge 8 = .ok (.getfield 340, 3) := by decide +kernel
theorem dX10_judge_11 : decode cX10_judge 11 = .ok (.if_icmp .ge 82, 3) := by decide +kernel
theorem dX10_judge_14 : decode cX10_judge 14 = .ok (.iload_n 1, 1) := by decide +kernel
theorem dX10_judge_15 : decode cX10_judge 15 = .ok (.aload_n 0, 1) := by decide +kernel
theorem dX10_judge_16 : decode cX10_judge 16 = .ok (.getfield 321, 3) := by decide +kernel
theorem dX10_judge_19 : decode cX10_judge 19 = .ok (.if_icmp .ge 64, 3) := by decide +kernel
theorem dX10_judge_22 : decode cX10_judge 22 = .ok (.aload_n 0, 1) := by decide +kernel
theorem dX10_judge_23 : decode cX10_judge 23 = .ok (.getfield 77, 3) := by decide +kernel
theorem dX10_judge_26 : decode cX10_judge 26 = .ok (.iconst 2, 1) := by decide +kernel
theorem dX10_judge_27 : decode cX10_judge 27 = .ok (.iload_n 1, 1) := by decide +kernel
theorem dX10_judge_28 : decode cX10_judge 28 = .ok (.imul, 1) := by decide +kernel
theorem dX10_judge_29 : decode cX10_judge 29 = .ok (.iaload, 1) := by decide +kernel
theorem dX10_judge_30 : decode cX10_judge 30 = .ok (.aload_n 0, 1) := by decide +kernel
theorem dX10_judge_31 : decode cX10_judge 31 = .ok (.getfield 65, 3) := by decide +kernel
theorem dX10_judge_34 : decode cX10_judge 34 = .ok (.iload_n 1, 1) := by decide +kernel
theorem dX10_judge_35 : decode cX10_judge 35 = .ok (.iaload, 1) := by decide +kernel
theorem dX10_judge_36 : decode cX10_judge 36 = .ok (.if_icmp .ne 47, 3) := by decide +kernel
theorem dX10_judge_39 : decode cX10_judge 39 = .ok (.aload_n 0, 1) := by decide +kernel
theorem dX10_judge_40 : decode cX10_judge 40 = .ok (.getfield 77, 3) := by decide +kernel
theorem dX10_judge_43 : decode cX10_judge 43 = .ok (.iconst 2, 1) := by decide +kernel
theorem dX10_judge_44 : decode cX10_judge 44 = .ok (.iload_n 1, 1) := by decide +kernel
theorem dX10_judge_45 : decode cX10_judge 45 = .ok (.imul, 1) := by decide +kernel
theorem dX10_judge_46 : decode cX10_judge 46 = .ok (.iconst 1, 1) := by decide +kernel
theorem dX10_judge_47 : decode cX10_judge 47 = .ok (.iadd, 1) := by decide +kernel
theorem dX10_judge_48 : decode cX10_judge 48 = .ok (.iaload, 1) := by decide +kernel
theorem dX10_judge_49 : decode cX10_judge 49 = .ok (.aload_n 0, 1) := by decide +kernel
theorem dX10_judge_50 : decode cX10_judge 50 = .ok (.getfield 20, 3) := by decide +kernel
theorem dX10_judge_53 : decode cX10_judge 53 = .ok (.iconst 2, 1) := by decide +kernel
theorem dX10_judge_54 : decode cX10_judge 54 = .ok (.aload_n 0, 1) := by decide +kernel
theorem dX10_judge_55 : decode cX10_judge 55 = .ok (.getfield 65, 3) := by decide +kernel
theorem dX10_judge_58 : decode cX10_judge 58 = .ok (.iload_n 1, 1) := by decide +kernel
theorem dX10_judge_59 : decode cX10_judge 59 = .ok (.iaload, 1) := by decide +kernel
theorem dX10_judge_60 : decode cX10_judge 60 = .ok (.imul, 1) := by decide +kernel
theorem dX10_judge_61 : decode cX10_judge 61 = .ok (.iaload, 1) := by decide +kernel
theorem dX10_judge_62 : decode cX10_judge 62 = .ok (.aload_n 0, 1) := by decide +kernel
theorem dX10_judge_63 : decode cX10_judge 63 = .ok (.getfield 20, 3) := by decide +kernel
theorem dX10_judge_66 : decode cX10_judge 66 = .ok (.iconst 2, 1) := by decide +kernel
theorem dX10_judge_67 : decode cX10_judge 67 = .ok (.aload_n 0, 1) := by decide +kernel
theorem dX10_judge_68 : decode cX10_judge 68 = .ok (.getfield 65, 3) := by decide +kernel
theorem dX10_judge_71 : decode cX10_judge 71 = .ok (.iload_n 1, 1) := by decide +kernel
theorem dX10_judge_72 : decode cX10_judge 72 = .ok (.iaload, 1) := by decide +kernel
theorem dX10_judge_73 : decode cX10_judge 73 = .ok (.imul, 1) := by decide +kernel
theorem dX10_judge_74 : decode cX10_judge 74 = .ok (.iconst 1, 1) := by decide +kernel
theorem dX10_judge_75 : decode cX10_judge 75 = .ok (.iadd, 1) := by decide +kernel
theorem dX10_judge_76 : decode cX10_judge 76 = .ok (.iaload, 1) := by decide +kernel
theorem dX10_judge_77 : decode cX10_judge 77 = .ok (.invokestatic 114, 3) := by decide +kernel
theorem dX10_judge_80 : decode cX10_judge 80 = .ok (.ifCond .ne 7, 3) := by decide +kernel
theorem dX10_judge_83 : decode cX10_judge 83 = .ok (.iload_n 1, 1) := by decide +kernel
theorem dX10_judge_84 : decode cX10_judge 84 = .ok (.iconst 1, 1) := by decide +kernel
theorem dX10_judge_85 : decode cX10_judge 85 = .ok (.iadd, 1) := by decide +kernel
theorem dX10_judge_86 : decode cX10_judge 86 = .ok (.ireturn, 1) := by decide +kernel
theorem dX10_judge_87 : decode cX10_judge 87 = .ok (.iinc 1 1, 3) := by decide +kernel
theorem dX10_judge_90 : decode cX10_judge 90 = .ok (.goto (-84), 3) := by decide +kernel
theorem dX10_judge_93 : decode cX10_judge 93 = .ok (.aload_n 0, 1) := by decide +kernel
theorem dX10_judge_94 : decode cX10_judge 94 = .ok (.getfield 340, 3) := by decide +kernel
theorem dX10_judge_97 : decode cX10_judge 97 = .ok (.aload_n 0, 1) := by decide +kernel
theorem dX10_judge_98 : decode cX10_judge 98 = .ok (.getfield 321, 3) := by decide +kernel
theorem dX10_judge_101 : decode cX10_judge 101 = .ok (.if_icmp .ge 6, 3) := by decide +kernel
theorem dX10_judge_104 : decode cX10_judge 104 = .ok (.bipush 11, 2) := by decide +kernel
theorem dX10_judge_106 : decode cX10_judge 106 = .ok (.ireturn, 1) := by decide +kernel
theorem dX10_judge_107 : decode cX10_judge 107 = .ok (.iconst 0, 1) := by decide +kernel
theorem dX10_judge_108 : decode cX10_judge 108 = .ok (.istore_n 1, 1) := by decide +kernel
theorem dX10_judge_109 : decode cX10_judge 109 = .ok (.iload_n 1, 1) := by decide +kernel
theorem dX10_judge_110 : decode cX10_judge 110 = .ok (.aload_n 0, 1) := by decide +kernel
theorem dX10_judge_111 : decode cX10_judge 111 = .ok (.getfield 321, 3) := by decide +kernel
theorem dX10_judge_114 : decode cX10_judge 114 = .ok (.if_icmp .ge 25, 3) := by decide +kernel
theorem dX10_judge_117 : decode cX10_judge 117 = .ok (.aload_n 0, 1) := by decide +kernel
theorem dX10_judge_118 : decode cX10_judge 118 = .ok (.getfield 68, 3) := by decide +kernel
theorem dX10_judge_121 : decode cX10_judge 121 = .ok (.iload_n 1, 1) := by decide +kernel
theorem dX10_judge_122 : decode cX10_judge 122 = .ok (.aload_n 0, 1) := by decide +kernel
theorem dX10_judge_123 : decode cX10_judge 123 = .ok (.getfield 77, 3) := by decide +kernel
theorem dX10_judge_126 : decode cX10_judge 126 = .ok (.iconst 2, 1) := by decide +kernel
theorem dX10_judge_127 : decode cX10_judge 127 = .ok (.iload_n 1, 1) := by decide +kernel
theorem dX10_judge_128 : decode cX10_judge 128 = .ok (.imul, 1) := by decide +kernel
theorem dX10_judge_129 : decode cX10_judge 129 = .ok (.iconst 1, 1) := by decide +kernel
theorem dX10_judge_130 : decode cX10_judge 130 = .ok (.iadd, 1) := by decide +kernel
theorem dX10_judge_131 : decode cX10_judge 131 = .ok (.iaload, 1) := by decide +kernel
theorem dX10_judge_132 : decode cX10_judge 132 = .ok (.iastore, 1) := by decide +kernel
theorem dX10_judge_133 : decode cX10_judge 133 = .ok (.iinc 1 1, 3) := by decide +kernel
theorem dX10_judge_136 : decode cX10_judge 136 = .ok (.goto (-27), 3) := by decide +kernel
theorem dX10_judge_139 : decode cX10_judge 139 = .ok (.aload_n 0, 1) := by decide +kernel
theorem dX10_judge_140 : decode cX10_judge 140 = .ok (.aload_n 0, 1) := by decide +kernel
theorem dX10_judge_141 : decode cX10_judge 141 = .ok (.getfield 68, 3) := by decide +kernel
theorem dX10_judge_144 : decode cX10_judge 144 = .ok (.invokevirtual 330, 3) := by decide +kernel
theorem dX10_judge_147 : decode cX10_judge 147 = .ok (.aload_n 0, 1) := by decide +kernel
theorem dX10_judge_148 : decode cX10_judge 148 = .ok (.invokevirtual 314, 3) := by decide +kernel
theorem dX10_judge_151 : decode cX10_judge 151 = .ok (.istore_n 1, 1) := by decide +kernel
theorem dX10_judge_152 : decode cX10_judge 152 = .ok (.aload_n 0, 1) := by decide +kernel
theorem dX10_judge_153 : decode cX10_judge 153 = .ok (.aload_n 0, 1) := by decide +kernel
theorem dX10_judge_154 : decode cX10_judge 154 = .ok (.getfield 74, 3) := by decide +kernel
theorem dX10_judge_157 : decode cX10_judge 157 = .ok (.invokevirtual 330, 3) := by decide +kernel
theorem dX10_judge_160 : decode cX10_judge 160 = .ok (.iconst 0, 1) := by decide +kernel
theorem dX10_judge_161 : decode cX10_judge 161 = .ok (.istore_n 2, 1) := by decide +kernel
theorem dX10_judge_162 : decode cX10_judge 162 = .ok (.iload_n 2, 1) := by decide +kernel
theorem dX10_judge_163 : decode cX10_judge 163 = .ok (.aload_n 0, 1) := by decide +kernel
theorem dX10_judge_164 : decode cX10_judge 164 = .ok (.getfield 296, 3) := by decide +kernel
theorem dX10_judge_167 : decode cX10_judge 167 = .ok (.if_icmp .ge 23, 3) := by decide +kernel
theorem dX10_judge_170 : decode cX10_judge 170 = .ok (.iload_n 1, 1) := by decide +kernel
theorem dX10_judge_171 : decode cX10_judge 171 = .ok (.iload_n 2, 1) := by decide +kernel
theorem dX10_judge_172 : decode cX10_judge 172 = .ok (.ishr, 1) := by decide +kernel
theorem dX10_judge_173 : decode cX10_judge 173 = .ok (.iconst 1, 1) := by decide +kernel
theorem dX10_judge_174 : decode cX10_judge 174 = .ok (.iand, 1) := by decide +kernel
theorem dX10_judge_175 : decode cX10_judge 175 = .ok (.iconst 1, 1) := by decide +kernel
theorem dX10_judge_176 : decode cX10_judge 176 = .ok (.if_icmp .ne 8, 3) := by decide +kernel
theorem dX10_judge_179 : decode cX10_judge 179 = .ok (.bipush 20, 2) := by decide +kernel
theorem dX10_judge_181 : decode cX10_judge 181 = .ok (.iload_n 2, 1) := by decide +kernel
theorem dX10_judge_182 : decode cX10_judge 182 = .ok (.iadd, 1) := by decide +kernel
theorem dX10_judge_183 : decode cX10_judge 183 = .ok (.ireturn, 1) := by decide +kernel
theorem dX10_judge_184 : decode cX10_judge 184 = .ok (.iinc 2 1, 3) := by decide +kernel
theorem dX10_judge_187 : decode cX10_judge 187 = .ok (.goto (-25), 3) := by decide +kernel
theorem dX10_judge_190 : decode cX10_judge 190 = .ok (.iconst 0, 1) := by decide +kernel
theorem dX10_judge_191 : decode cX10_judge 191 = .ok (.ireturn, 1) := by decide +kernel
theorem dX10_far_0 : decode cX10_far 0 = .ok (.aload_n 0, 1) := by decide +kernel
theorem dX10_far_1 : decode cX10_far 1 = .ok (.iload_n 1, 1) := by decide +kernel
theorem dX10_far_2 : decode cX10_far 2 = .ok (.invokevirtual 134, 3) := by decide +kernel
theorem dX10_far_5 : decode cX10_far 5 = .ok (.ifCond .ne 5, 3) := by decide +kernel
theorem dX10_far_8 : decode cX10_far 8 = .ok (.iconst (-1), 1) := by decide +kernel
theorem dX10_far_9 : decode cX10_far 9 = .ok (.ireturn, 1) := by decide +kernel
theorem dX10_far_10 : decode cX10_far 10 = .ok (.aload_n 0, 1) := by decide +kernel
theorem dX10_far_11 : decode cX10_far 11 = .ok (.invokevirtual 314, 3) := by decide +kernel
theorem dX10_far_14 : decode cX10_far 14 = .ok (.ifCond .eq 6, 3) := by decide +kernel
theorem dX10_far_17 : decode cX10_far 17 = .ok (.bipush (-5), 2) := by decide +kernel
theorem dX10_far_19 : decode cX10_far 19 = .ok (.ireturn, 1) := by decide +kernel
theorem dX10_far_20 : decode cX10_far 20 = .ok (.aload_n 0, 1) := by decide +kernel
theorem dX10_far_21 : decode cX10_far 21 = .ok (.iload_n 1, 1) := by decide +kernel
theorem dX10_far_22 : decode cX10_far 22 = .ok (.iconst 3, 1) := by decide +kernel
theorem dX10_far_23 : decode cX10_far 23 = .ok (.invokevirtual 137, 3) := by decide +kernel
theorem dX10_far_26 : decode cX10_far 26 = .ok (.istore_n 3, 1) := by decide +kernel
theorem dX10_far_27 : decode cX10_far 27 = .ok (.iconst 0, 1) := by decide +kernel
theorem dX10_far_28 : decode cX10_far 28 = .ok (.istore 4, 2) := by decide +kernel
theorem dX10_far_30 : decode cX10_far 30 = .ok (.iconst 1, 1) := by decide +kernel
theorem dX10_far_31 : decode cX10_far 31 = .ok (.istore 5, 2) := by decide +kernel
theorem dX10_far_33 : decode cX10_far 33 = .ok (.iload 5, 2) := by decide +kernel
theorem dX10_far_35 : decode cX10_far 35 = .ok (.ifCond .eq 84, 3) := by decide +kernel
theorem dX10_far_38 : decode cX10_far 38 = .ok (.iload_n 2, 1) := by decide +kernel
theorem dX10_far_39 : decode cX10_far 39 = .ok (.ifCond .eq 12, 3) := by decide +kernel
theorem dX10_far_42 : decode cX10_far 42 = .ok (.iload_n 3, 1) := by decide +kernel
theorem dX10_far_43 : decode cX10_far 43 = .ok (.iload 4, 2) := by decide +kernel
theorem dX10_far_45 : decode cX10_far 45 = .ok (.iadd, 1) := by decide +kernel
theorem dX10_far_46 : decode cX10_far 46 = .ok (.iconst 1, 1) := by decide +kernel
theorem dX10_far_47 : decode cX10_far 47 = .ok (.iadd, 1) := by decide +kernel
theorem dX10_far_48 : decode cX10_far 48 = .ok (.goto 9, 3) := by decide +kernel
theorem dX10_far_51 : decode cX10_far 51 = .ok (.iload_n 3, 1) := by decide +kernel
theorem dX10_far_52 : decode cX10_far 52 = .ok (.iload 4, 2) := by decide +kernel
theorem dX10_far_54 : decode cX10_far 54 = .ok (.isub, 1) := by decide +kernel
theorem dX10_far_55 : decode cX10_far 55 = .ok (.iconst 1, 1) := by decide +kernel
theorem dX10_far_56 : decode cX10_far 56 = .ok (.isub, 1) := by decide +kernel
theorem dX10_far_57 : decode cX10_far 57 = .ok (.istore 6, 2) := by decide +kernel
theorem dX10_far_59 : decode cX10_far 59 = .ok (.iload 6, 2) := by decide +kernel
theorem dX10_far_61 : decode cX10_far 61 = .ok (.iconst 1, 1) := by decide +kernel
theorem dX10_far_62 : decode cX10_far 62 = .ok (.bipush 9, 2) := by decide +kernel
theorem dX10_far_64 : decode cX10_far 64 = .ok (.invokestatic 114, 3) := by decide +kernel
theorem dX10_far_67 : decode cX10_far 67 = .ok (.istore 5, 2) := by decide +kernel
theorem dX10_far_69 : decode cX10_far 69 = .ok (.iload 5, 2) := by decide +kernel
theorem dX10_far_71 : decode cX10_far 71 = .ok (.ifCond .eq 45, 3) := by decide +kernel
theorem dX10_far_74 : decode cX10_far 74 = .ok (.aload_n 0, 1) := by decide +kernel
theorem dX10_far_75 : decode cX10_far 75 = .ok (.getfield 17, 3) := by decide +kernel
theorem dX10_far_78 : decode cX10_far 78 = .ok (.bipush 10, 2) := by decide +kernel
theorem dX10_far_80 : decode cX10_far 80 = .ok (.iload_n 1, 1) := by decide +kernel
theorem dX10_far_81 : decode cX10_far 81 = .ok (.imul, 1) := by decide +kernel
theorem dX10_far_82 : decode cX10_far 82 = .ok (.iconst 3, 1) := by decide +kernel
theorem dX10_far_83 : decode cX10_far 83 = .ok (.iadd, 1) := by decide +kernel
theorem dX10_far_84 : decode cX10_far 84 = .ok (.iload 6, 2) := by decide +kernel
theorem dX10_far_86 : decode cX10_far 86 = .ok (.iastore, 1) := by decide +kernel
theorem dX10_far_87 : decode cX10_far 87 = .ok (.aload_n 0, 1) := by decide +kernel
theorem dX10_far_88 : decode cX10_far 88 = .ok (.invokevirtual 314, 3) := by decide +kernel
theorem dX10_far_91 : decode cX10_far 91 = .ok (.ifCond .ne 7, 3) := by decide +kernel
theorem dX10_far_94 : decode cX10_far 94 = .ok (.iconst 1, 1) := by decide +kernel
theorem dX10_far_95 : decode cX10_far 95 = .ok (.goto 4, 3) := by decide +kernel
theorem dX10_far_98 : decode cX10_far 98 = .ok (.iconst 0, 1) := by decide +kernel
theorem dX10_far_99 : decode cX10_far 99 = .ok (.istore 5, 2) := by decide +kernel
theorem dX10_far_101 : decode cX10_far 101 = .ok (.iload 4, 2) := by decide +kernel
theorem dX10_far_103 : decode cX10_far 103 = .ok (.iload 5, 2) := by decide +kernel
theorem dX10_far_105 : decode cX10_far 105 = .ok (.ifCond .eq 7, 3) := by decide +kernel
theorem dX10_far_108 : decode cX10_far 108 = .ok (.iconst 1, 1) := by decide +kernel
theorem dX10_far_109 : decode cX10_far 109 = .ok (.goto 4, 3) := by decide +kernel
theorem dX10_far_112 : decode cX10_far 112 = .ok (.iconst 0, 1) := by decide +kernel
theorem dX10_far_113 : decode cX10_far 113 = .ok (.iadd, 1) := by decide +kernel
theorem dX10_far_114 : decode cX10_far 114 = .ok (.istore 4, 2) := by decide +kernel
theorem dX10_far_116 : decode cX10_far 116 = .ok (.goto (-83), 3) := by decide +kernel
theorem dX10_far_119 : decode cX10_far 119 = .ok (.aload_n 0, 1) := by decide +kernel
theorem dX10_far_120 : decode cX10_far 120 = .ok (.getfield 17, 3) := by decide +kernel
theorem dX10_far_123 : decode cX10_far 123 = .ok (.bipush 10, 2) := by decide +kernel
theorem dX10_far_125 : decode cX10_far 125 = .ok (.iload_n 1, 1) := by decide +kernel
theorem dX10_far_126 : decode cX10_far 126 = .ok (.imul, 1) := by decide +kernel
theorem dX10_far_127 : decode cX10_far 127 = .ok (.iconst 3, 1) := by decide +kernel
theorem dX10_far_128 : decode cX10_far 128 = .ok (.iadd, 1) := by decide +kernel
theorem dX10_far_129 : decode cX10_far 129 = .ok (.iload_n 3, 1) := by decide +kernel
theorem dX10_far_130 : decode cX10_far 130 = .ok (.iastore, 1) := by decide +kernel
theorem dX10_far_131 : decode cX10_far 131 = .ok (.iload 4, 2) := by decide +kernel
theorem dX10_far_133 : decode cX10_far 133 = .ok (.ireturn, 1) := by decide +kernel
theorem dX10_falls_0 : decode cX10_falls 0 = .ok (.aload_n 0, 1) := by decide +kernel
theorem dX10_falls_1 : decode cX10_falls 1 = .ok (.iload_n 1, 1) := by decide +kernel
theorem dX10_falls_2 : decode cX10_falls 2 = .ok (.invokevirtual 134, 3) := by decide +kernel
theorem dX10_falls_5 : decode cX10_falls 5 = .ok (.ifCond .eq 12, 3) := by decide +kernel
theorem dX10_falls_8 : decode cX10_falls 8 = .ok (.iload_n 2, 1) := by decide +kernel
theorem dX10_falls_9 : decode cX10_falls 9 = .ok (.iconst 1, 1) := by decide +kernel
theorem dX10_falls_10 : decode cX10_falls 10 = .ok (.iconst 2, 1) := by decide +kernel
theorem dX10_falls_11 : decode cX10_falls 11 = .ok (.invokestatic 114, 3) := by decide +kernel
theorem dX10_falls_14 : decode cX10_falls 14 = .ok (.ifCond .ne 5, 3) := by decide +kernel
theorem dX10_falls_17 : decode cX10_falls 17 = .ok (.iconst (-1), 1) := by decide +kernel
theorem dX10_falls_18 : decode cX10_falls 18 = .ok (.ireturn, 1) := by decide +kernel
theorem dX10_falls_19 : decode cX10_falls 19 = .ok (.aload_n 0, 1) := by decide +kernel
theorem dX10_falls_20 : decode cX10_falls 20 = .ok (.iload_n 1, 1) := by decide +kernel
theorem dX10_falls_21 : decode cX10_falls 21 = .ok (.iconst 4, 1) := by decide +kernel
theorem dX10_falls_22 : decode cX10_falls 22 = .ok (.invokevirtual 137, 3) := by decide +kernel
theorem dX10_falls_25 : decode cX10_falls 25 = .ok (.istore_n 3, 1) := by decide +kernel
theorem dX10_falls_26 : decode cX10_falls 26 = .ok (.aload_n 0, 1) := by decide +kernel
theorem dX10_falls_27 : decode cX10_falls 27 = .ok (.getfield 17, 3) := by decide +kernel
theorem dX10_falls_30 : decode cX10_falls 30 = .ok (.bipush 10, 2) := by decide +kernel
theorem dX10_falls_32 : decode cX10_falls 32 = .ok (.iload_n 1, 1) := by decide +kernel
theorem dX10_falls_33 : decode cX10_falls 33 = .ok (.imul, 1) := by decide +kernel
theorem dX10_falls_34 : decode cX10_falls 34 = .ok (.iconst 4, 1) := by decide +kernel
theorem dX10_falls_35 : decode cX10_falls 35 = .ok (.iadd, 1) := by decide +kernel
theorem dX10_falls_36 : decode cX10_falls 36 = .ok (.iconst 0, 1) := by decide +kernel
theorem dX10_falls_37 : decode cX10_falls 37 = .ok (.iastore, 1) := by decide +kernel
theorem dX10_falls_38 : decode cX10_falls 38 = .ok (.aload_n 0, 1) := by decide +kernel
theorem dX10_falls_39 : decode cX10_falls 39 = .ok (.invokevirtual 314, 3) := by decide +kernel
theorem dX10_falls_42 : decode cX10_falls 42 = .ok (.istore 4, 2) := by decide +kernel
theorem dX10_falls_44 : decode cX10_falls 44 = .ok (.aload_n 0, 1) := by decide +kernel
theorem dX10_falls_45 : decode cX10_falls 45 = .ok (.getfield 17, 3) := by decide +kernel
theorem dX10_falls_48 : decode cX10_falls 48 = .ok (.bipush 10, 2) := by decide +kernel
theorem dX10_falls_50 : decode cX10_falls 50 = .ok (.iload_n 1, 1) := by decide +kernel
theorem dX10_falls_51 : decode cX10_falls 51 = .ok (.imul, 1) := by decide +kernel
theorem dX10_falls_52 : decode cX10_falls 52 = .ok (.iconst 4, 1) := by decide +kernel
theorem dX10_falls_53 : decode cX10_falls 53 = .ok (.iadd, 1) := by decide +kernel
theorem dX10_falls_54 : decode cX10_falls 54 = .ok (.iload_n 2, 1) := by decide +kernel
theorem dX10_falls_55 : decode cX10_falls 55 = .ok (.iastore, 1) := by decide +kernel
theorem dX10_falls_56 : decode cX10_falls 56 = .ok (.aload_n 0, 1) := by decide +kernel
theorem dX10_falls_57 : decode cX10_falls 57 = .ok (.invokevirtual 314, 3) := by decide +kernel
theorem dX10_falls_60 : decode cX10_falls 60 = .ok (.istore 5, 2) := by decide +kernel
theorem dX10_falls_62 : decode cX10_falls 62 = .ok (.aload_n 0, 1) := by decide +kernel
theorem dX10_falls_63 : decode cX10_falls 63 = .ok (.getfield 17, 3) := by decide +kernel
theorem dX10_falls_66 : decode cX10_falls 66 = .ok (.bipush 10, 2) := by decide +kernel
theorem dX10_falls_68 : decode cX10_falls 68 = .ok (.iload_n 1, 1) := by decide +kernel
theorem dX10_falls_69 : decode cX10_falls 69 = .ok (.imul, 1) := by decide +kernel
theorem dX10_falls_70 : decode cX10_falls 70 = .ok (.iconst 4, 1) := by decide +kernel
theorem dX10_falls_71 : decode cX10_falls 71 = .ok (.iadd, 1) := by decide +kernel
theorem dX10_falls_72 : decode cX10_falls 72 = .ok (.iload_n 3, 1) := by decide +kernel
theorem dX10_falls_73 : decode cX10_falls 73 = .ok (.iastore, 1) := by decide +kernel
theorem dX10_falls_74 : decode cX10_falls 74 = .ok (.iload 5, 2) := by decide +kernel
theorem dX10_falls_76 : decode cX10_falls 76 = .ok (.iload 4, 2) := by decide +kernel
theorem dX10_falls_78 : decode cX10_falls 78 = .ok (.iconst (-1), 1) := by decide +kernel
theorem dX10_falls_79 : decode cX10_falls 79 = .ok (.ixor, 1) := by decide +kernel
theorem dX10_falls_80 : decode cX10_falls 80 = .ok (.iand, 1) := by decide +kernel
theorem dX10_falls_81 : decode cX10_falls 81 = .ok (.ireturn, 1) := by decide +kernel
theorem dX10_change_0 : decode cX10_change 0 = .ok (.aload_n 0, 1) := by decide +kernel
theorem dX10_change_1 : decode cX10_change 1 = .ok (.iload_n 1, 1) := by decide +kernel
theorem dX10_change_2 : decode cX10_change 2 = .ok (.invokevirtual 134, 3) := by decide +kernel
theorem dX10_change_5 : decode cX10_change 5 = .ok (.ifCond .eq 12, 3) := by decide +kernel
theorem dX10_change_8 : decode cX10_change 8 = .ok (.iload_n 2, 1) := by decide +kernel
theorem dX10_change_9 : decode cX10_change 9 = .ok (.iconst 0, 1) := by decide +kernel
theorem dX10_change_10 : decode cX10_change 10 = .ok (.iconst 2, 1) := by decide +kernel
theorem dX10_change_11 : decode cX10_change 11 = .ok (.invokestatic 114, 3) := by decide +kernel
theorem dX10_change_14 : decode cX10_change 14 = .ok (.ifCond .ne 5, 3) := by decide +kernel
theorem dX10_change_17 : decode cX10_change 17 = .ok (.iconst (-1), 1) := by decide +kernel
theorem dX10_change_18 : decode cX10_change 18 = .ok (.ireturn, 1) := by decide +kernel
theorem dX10_change_19 : decode cX10_change 19 = .ok (.aload_n 0, 1) := by decide +kernel
theorem dX10_change_20 : decode cX10_change 20 = .ok (.getfield 153, 3) := by decide +kernel
theorem dX10_change_23 : decode cX10_change 23 = .ok (.bipush 6, 2) := by decide +kernel
theorem dX10_change_25 : decode cX10_change 25 = .ok (.if_icmp .ne 6, 3) := by decide +kernel
theorem dX10_change_28 : decode cX10_change 28 = .ok (.bipush (-2), 2) := by decide +kernel
theorem dX10_change_30 : decode cX10_change 30 = .ok (.ireturn, 1) := by decide +kernel
theorem dX10_change_31 : decode cX10_change 31 = .ok (.aload_n 0, 1) := by decide +kernel
theorem dX10_change_32 : decode cX10_change 32 = .ok (.getfield 23, 3) := by decide +kernel
theorem dX10_change_35 : decode cX10_change 35 = .ok (.iconst 2, 1) := by decide +kernel
theorem dX10_change_36 : decode cX10_change 36 = .ok (.aload_n 0, 1) := by decide +kernel
theorem dX10_change_37 : decode cX10_change 37 = .ok (.getfield 153, 3) := by decide +kernel
theorem dX10_change_40 : decode cX10_change 40 = .ok (.imul, 1) := by decide +kernel
theorem dX10_change_41 : decode cX10_change 41 = .ok (.iload_n 1, 1) := by decide +kernel
theorem dX10_change_42 : decode cX10_change 42 = .ok (.iastore, 1) := by decide +kernel
theorem dX10_change_43 : decode cX10_change 43 = .ok (.aload_n 0, 1) := by decide +kernel
theorem dX10_change_44 : decode cX10_change 44 = .ok (.getfield 23, 3) := by decide +kernel
theorem dX10_change_47 : decode cX10_change 47 = .ok (.iconst 2, 1) := by decide +kernel
theorem dX10_change_48 : decode cX10_change 48 = .ok (.aload_n 0, 1) := by decide +kernel
theorem dX10_change_49 : decode cX10_change 49 = .ok (.getfield 153, 3) := by decide +kernel
theorem dX10_change_52 : decode cX10_change 52 = .ok (.imul, 1) := by decide +kernel
theorem dX10_change_53 : decode cX10_change 53 = .ok (.iconst 1, 1) := by decide +kernel
theorem dX10_change_54 : decode cX10_change 54 = .ok (.iadd, 1) := by decide +kernel
theorem dX10_change_55 : decode cX10_change 55 = .ok (.iload_n 2, 1) := by decide +kernel
theorem dX10_change_56 : decode cX10_change 56 = .ok (.iastore, 1) := by decide +kernel
theorem dX10_change_57 : decode cX10_change 57 = .ok (.aload_n 0, 1) := by decide +kernel
theorem dX10_change_58 : decode cX10_change 58 = .ok (.dup, 1) := by decide +kernel
theorem dX10_change_59 : decode cX10_change 59 = .ok (.getfield 153, 3) := by decide +kernel
theorem dX10_change_62 : decode cX10_change 62 = .ok (.iconst 1, 1) := by decide +kernel
theorem dX10_change_63 : decode cX10_change 63 = .ok (.iadd, 1) := by decide +kernel
theorem dX10_change_64 : decode cX10_change 64 = .ok (.putfield 153, 3) := by decide +kernel
theorem dX10_change_67 : decode cX10_change 67 = .ok (.aload_n 0, 1) := by decide +kernel
theorem dX10_change_68 : decode cX10_change 68 = .ok (.getfield 153, 3) := by decide +kernel
theorem dX10_change_71 : decode cX10_change 71 = .ok (.iconst 1, 1) := by decide +kernel
theorem dX10_change_72 : decode cX10_change 72 = .ok (.isub, 1) := by decide +kernel
theorem dX10_change_73 : decode cX10_change 73 = .ok (.ireturn, 1) := by decide +kernel
theorem dX10_bits_0 : decode cX10_bits 0 = .ok (.iconst 0, 1) := by decide +kernel
theorem dX10_bits_1 : decode cX10_bits 1 = .ok (.istore_n 1, 1) := by decide +kernel
theorem dX10_bits_2 : decode cX10_bits 2 = .ok (.iconst 0, 1) := by decide +kernel
theorem dX10_bits_3 : decode cX10_bits 3 = .ok (.istore_n 2, 1) := by decide +kernel
theorem dX10_bits_4 : decode cX10_bits 4 = .ok (.iload_n 2, 1) := by decide +kernel
theorem dX10_bits_5 : decode cX10_bits 5 = .ok (.bipush 10, 2) := by decide +kernel
theorem dX10_bits_7 : decode cX10_bits 7 = .ok (.if_icmp .ge 17, 3) := by decide +kernel
theorem dX10_bits_10 : decode cX10_bits 10 = .ok (.iload_n 1, 1) := by decide +kernel
theorem dX10_bits_11 : decode cX10_bits 11 = .ok (.iload_n 0, 1) := by decide +kernel
theorem dX10_bits_12 : decode cX10_bits 12 = .ok (.iload_n 2, 1) := by decide +kernel
theorem dX10_bits_13 : decode cX10_bits 13 = .ok (.ishr, 1) := by decide +kernel
theorem dX10_bits_14 : decode cX10_bits 14 = .ok (.iconst 1, 1) := by decide +kernel
theorem dX10_bits_15 : decode cX10_bits 15 = .ok (.iand, 1) := by decide +kernel
theorem dX10_bits_16 : decode cX10_bits 16 = .ok (.iadd, 1) := by decide +kernel
theorem dX10_bits_17 : decode cX10_bits 17 = .ok (.istore_n 1, 1) := by decide +kernel
theorem dX10_bits_18 : decode cX10_bits 18 = .ok (.iinc 2 1, 3) := by decide +kernel
theorem dX10_bits_21 : decode cX10_bits 21 = .ok (.goto (-17), 3) := by decide +kernel
theorem dX10_bits_24 : decode cX10_bits 24 = .ok (.iload_n 1, 1) := by decide +kernel
theorem dX10_bits_25 : decode cX10_bits 25 = .ok (.ireturn, 1) := by decide +kernel
theorem dX10_helps_0 : decode cX10_helps 0 = .ok (.iconst 0, 1) := by decide +kernel
theorem dX10_helps_1 : decode cX10_helps 1 = .ok (.istore_n 2, 1) := by decide +kernel
theorem dX10_helps_2 : decode cX10_helps 2 = .ok (.iload_n 2, 1) := by decide +kernel
theorem dX10_helps_3 : decode cX10_helps 3 = .ok (.bipush 100, 2) := by decide +kernel
theorem dX10_helps_5 : decode cX10_helps 5 = .ok (.if_icmp .ge 21, 3) := by decide +kernel
theorem dX10_helps_8 : decode cX10_helps 8 = .ok (.aload_n 0, 1) := by decide +kernel
theorem dX10_helps_9 : decode cX10_helps 9 = .ok (.getfield 80, 3) := by decide +kernel
theorem dX10_helps_12 : decode cX10_helps 12 = .ok (.iload_n 2, 1) := by decide +kernel
theorem dX10_helps_13 : decode cX10_helps 13 = .ok (.aload_n 0, 1) := by decide +kernel
theorem dX10_helps_14 : decode cX10_helps 14 = .ok (.getfield 17, 3) := by decide +kernel
theorem dX10_helps_17 : decode cX10_helps 17 = .ok (.iload_n 2, 1) := by decide +kernel
theorem dX10_helps_18 : decode cX10_helps 18 = .ok (.iaload, 1) := by decide +kernel
theorem dX10_helps_19 : decode cX10_helps 19 = .ok (.iastore, 1) := by decide +kernel
theorem dX10_helps_20 : decode cX10_helps 20 = .ok (.iinc 2 1, 3) := by decide +kernel
theorem dX10_helps_23 : decode cX10_helps 23 = .ok (.goto (-21), 3) := by decide +kernel
theorem dX10_helps_26 : decode cX10_helps 26 = .ok (.iconst 0, 1) := by decide +kernel
theorem dX10_helps_27 : decode cX10_helps 27 = .ok (.istore_n 2, 1) := by decide +kernel
theorem dX10_helps_28 : decode cX10_helps 28 = .ok (.iload_n 2, 1) := by decide +kernel
theorem dX10_helps_29 : decode cX10_helps 29 = .ok (.aload_n 0, 1) := by decide +kernel
theorem dX10_helps_30 : decode cX10_helps 30 = .ok (.getfield 153, 3) := by decide +kernel
theorem dX10_helps_33 : decode cX10_helps 33 = .ok (.if_icmp .ge 132, 3) := by decide +kernel
theorem dX10_helps_36 : decode cX10_helps 36 = .ok (.bipush 10, 2) := by decide +kernel
theorem dX10_helps_38 : decode cX10_helps 38 = .ok (.aload_n 0, 1) := by decide +kernel
theorem dX10_helps_39 : decode cX10_helps 39 = .ok (.getfield 23, 3) := by decide +kernel
theorem dX10_helps_42 : decode cX10_helps 42 = .ok (.iconst 2, 1) := by decide +kernel
theorem dX10_helps_43 : decode cX10_helps 43 = .ok (.iload_n 2, 1) := by decide +kernel
theorem dX10_helps_44 : decode cX10_helps 44 = .ok (.imul, 1) := by decide +kernel
theorem dX10_helps_45 : decode cX10_helps 45 = .ok (.iaload, 1) := by decide +kernel
theorem dX10_helps_46 : decode cX10_helps 46 = .ok (.imul, 1) := by decide +kernel
theorem dX10_helps_47 : decode cX10_helps 47 = .ok (.istore_n 3, 1) := by decide +kernel
theorem dX10_helps_48 : decode cX10_helps 48 = .ok (.iload_n 1, 1) := by decide +kernel
theorem dX10_helps_49 : decode cX10_helps 49 = .ok (.iload_n 2, 1) := by decide +kernel
theorem dX10_helps_50 : decode cX10_helps 50 = .ok (.ishr, 1) := by decide +kernel
theorem dX10_helps_51 : decode cX10_helps 51 = .ok (.iconst 1, 1) := by decide +kernel
theorem dX10_helps_52 : decode cX10_helps 52 = .ok (.iand, 1) := by decide +kernel
theorem dX10_helps_53 : decode cX10_helps 53 = .ok (.ifCond .ne 7, 3) := by decide +kernel
theorem dX10_helps_56 : decode cX10_helps 56 = .ok (.iconst (-1), 1) := by decide +kernel
theorem dX10_helps_57 : decode cX10_helps 57 = .ok (.goto 13, 3) := by decide +kernel
theorem dX10_helps_60 : decode cX10_helps 60 = .ok (.aload_n 0, 1) := by decide +kernel
theorem dX10_helps_61 : decode cX10_helps 61 = .ok (.getfield 23, 3) := by decide +kernel
theorem dX10_helps_64 : decode cX10_helps 64 = .ok (.iconst 2, 1) := by decide +kernel
theorem dX10_helps_65 : decode cX10_helps 65 = .ok (.iload_n 2, 1) := by decide +kernel
theorem dX10_helps_66 : decode cX10_helps 66 = .ok (.imul, 1) := by decide +kernel
theorem dX10_helps_67 : decode cX10_helps 67 = .ok (.iconst 1, 1) := by decide +kernel
theorem dX10_helps_68 : decode cX10_helps 68 = .ok (.iadd, 1) := by decide +kernel
theorem dX10_helps_69 : decode cX10_helps 69 = .ok (.iaload, 1) := by decide +kernel
theorem dX10_helps_70 : decode cX10_helps 70 = .ok (.istore 4, 2) := by decide +kernel
theorem dX10_helps_72 : decode cX10_helps 72 = .ok (.iload 4, 2) := by decide +kernel
theorem dX10_helps_74 : decode cX10_helps 74 = .ok (.ifCond .ne 15, 3) := by decide +kernel
theorem dX10_helps_77 : decode cX10_helps 77 = .ok (.aload_n 0, 1) := by decide +kernel
theorem dX10_helps_78 : decode cX10_helps 78 = .ok (.getfield 17, 3) := by decide +kernel
theorem dX10_helps_81 : decode cX10_helps 81 = .ok (.iload_n 3, 1) := by decide +kernel
theorem dX10_helps_82 : decode cX10_helps 82 = .ok (.iconst 4, 1) := by decide +kernel
theorem dX10_helps_83 : decode cX10_helps 83 = .ok (.iadd, 1) := by decide +kernel
theorem dX10_helps_84 : decode cX10_helps 84 = .ok (.iconst 1, 1) := by decide +kernel
theorem dX10_helps_85 : decode cX10_helps 85 = .ok (.iastore, 1) := by decide +kernel
theorem dX10_helps_86 : decode cX10_helps 86 = .ok (.goto 73, 3) := by decide +kernel
theorem dX10_helps_89 : decode cX10_helps 89 = .ok (.iload 4, 2) := by decide +kernel
theorem dX10_helps_91 : decode cX10_helps 91 = .ok (.iconst 1, 1) := by decide +kernel
theorem dX10_helps_92 : decode cX10_helps 92 = .ok (.if_icmp .ne 42, 3) := by decide +kernel
theorem dX10_helps_95 : decode cX10_helps 95 = .ok (.aload_n 0, 1) := by decide +kernel
theorem dX10_helps_96 : decode cX10_helps 96 = .ok (.getfield 17, 3) := by decide +kernel
theorem dX10_helps_99 : decode cX10_helps 99 = .ok (.iload_n 3, 1) := by decide +kernel
theorem dX10_helps_100 : decode cX10_helps 100 = .ok (.iconst 1, 1) := by decide +kernel
theorem dX10_helps_101 : decode cX10_helps 101 = .ok (.iadd, 1) := by decide +kernel
theorem dX10_helps_102 : decode cX10_helps 102 = .ok (.iaload, 1) := by decide +kernel
theorem dX10_helps_103 : decode cX10_helps 103 = .ok (.istore 5, 2) := by decide +kernel
theorem dX10_helps_105 : decode cX10_helps 105 = .ok (.aload_n 0, 1) := by decide +kernel
theorem dX10_helps_106 : decode cX10_helps 106 = .ok (.getfield 17, 3) := by decide +kernel
theorem dX10_helps_109 : decode cX10_helps 109 = .ok (.iload_n 3, 1) := by decide +kernel
theorem dX10_helps_110 : decode cX10_helps 110 = .ok (.iconst 1, 1) := by decide +kernel
theorem dX10_helps_111 : decode cX10_helps 111 = .ok (.iadd, 1) := by decide +kernel
theorem dX10_helps_112 : decode cX10_helps 112 = .ok (.aload_n 0, 1) := by decide +kernel
theorem dX10_helps_113 : decode cX10_helps 113 = .ok (.getfield 17, 3) := by decide +kernel
theorem dX10_helps_116 : decode cX10_helps 116 = .ok (.iload_n 3, 1) := by decide +kernel
theorem dX10_helps_117 : decode cX10_helps 117 = .ok (.iconst 2, 1) := by decide +kernel
theorem dX10_helps_118 : decode cX10_helps 118 = .ok (.iadd, 1) := by decide +kernel
theorem dX10_helps_119 : decode cX10_helps 119 = .ok (.iaload, 1) := by decide +kernel
theorem dX10_helps_120 : decode cX10_helps 120 = .ok (.iastore, 1) := by decide +kernel
theorem dX10_helps_121 : decode cX10_helps 121 = .ok (.aload_n 0, 1) := by decide +kernel
theorem dX10_helps_122 : decode cX10_helps 122 = .ok (.getfield 17, 3) := by decide +kernel
theorem dX10_helps_125 : decode cX10_helps 125 = .ok (.iload_n 3, 1) := by decide +kernel
theorem dX10_helps_126 : decode cX10_helps 126 = .ok (.iconst 2, 1) := by decide +kernel
theorem dX10_helps_127 : decode cX10_helps 127 = .ok (.iadd, 1) := by decide +kernel
theorem dX10_helps_128 : decode cX10_helps 128 = .ok (.iload 5, 2) := by decide +kernel
theorem dX10_helps_130 : decode cX10_helps 130 = .ok (.iastore, 1) := by decide +kernel
theorem dX10_helps_131 : decode cX10_helps 131 = .ok (.goto 28, 3) := by decide +kernel
theorem dX10_helps_134 : decode cX10_helps 134 = .ok (.iload 4, 2) := by decide +kernel
theorem dX10_helps_136 : decode cX10_helps 136 = .ok (.iconst 2, 1) := by decide +kernel
theorem dX10_helps_137 : decode cX10_helps 137 = .ok (.if_icmp .ne 22, 3) := by decide +kernel
theorem dX10_helps_140 : decode cX10_helps 140 = .ok (.aload_n 0, 1) := by decide +kernel
theorem dX10_helps_141 : decode cX10_helps 141 = .ok (.getfield 17, 3) := by decide +kernel
theorem dX10_helps_144 : decode cX10_helps 144 = .ok (.iload_n 3, 1) := by decide +kernel
theorem dX10_helps_145 : decode cX10_helps 145 = .ok (.iconst 3, 1) := by decide +kernel
theorem dX10_helps_146 : decode cX10_helps 146 = .ok (.iadd, 1) := by decide +kernel
theorem dX10_helps_147 : decode cX10_helps 147 = .ok (.bipush 10, 2) := by decide +kernel
theorem dX10_helps_149 : decode cX10_helps 149 = .ok (.aload_n 0, 1) := by decide +kernel
theorem dX10_helps_150 : decode cX10_helps 150 = .ok (.getfield 17, 3) := by decide +kernel
theorem dX10_helps_153 : decode cX10_helps 153 = .ok (.iload_n 3, 1) := by decide +kernel
theorem dX10_helps_154 : decode cX10_helps 154 = .ok (.iconst 3, 1) := by decide +kernel
theorem dX10_helps_155 : decode cX10_helps 155 = .ok (.iadd, 1) := by decide +kernel
theorem dX10_helps_156 : decode cX10_helps 156 = .ok (.iaload, 1) := by decide +kernel
theorem dX10_helps_157 : decode cX10_helps 157 = .ok (.isub, 1) := by decide +kernel
theorem dX10_helps_158 : decode cX10_helps 158 = .ok (.iastore, 1) := by decide +kernel
theorem dX10_helps_159 : decode cX10_helps 159 = .ok (.iinc 2 1, 3) := by decide +kernel
theorem dX10_helps_162 : decode cX10_helps 162 = .ok (.goto (-134), 3) := by decide +kernel
theorem dX10_helps_165 : decode cX10_helps 165 = .ok (.aload_n 0, 1) := by decide +kernel
theorem dX10_helps_166 : decode cX10_helps 166 = .ok (.invokevirtual 314, 3) := by decide +kernel
theorem dX10_helps_169 : decode cX10_helps 169 = .ok (.ifCond .ne 7, 3) := by decide +kernel
theorem dX10_helps_172 : decode cX10_helps 172 = .ok (.iconst 1, 1) := by decide +kernel
theorem dX10_helps_173 : decode cX10_helps 173 = .ok (.goto 4, 3) := by decide +kernel
theorem dX10_helps_176 : decode cX10_helps 176 = .ok (.iconst 0, 1) := by decide +kernel
theorem dX10_helps_177 : decode cX10_helps 177 = .ok (.istore_n 2, 1) := by decide +kernel
theorem dX10_helps_178 : decode cX10_helps 178 = .ok (.iconst 0, 1) := by decide +kernel
theorem dX10_helps_179 : decode cX10_helps 179 = .ok (.istore_n 3, 1) := by decide +kernel
theorem dX10_helps_180 : decode cX10_helps 180 = .ok (.iload_n 3, 1) := by decide +kernel
theorem dX10_helps_181 : decode cX10_helps 181 = .ok (.bipush 100, 2) := by decide +kernel
theorem dX10_helps_183 : decode cX10_helps 183 = .ok (.if_icmp .ge 21, 3) := by decide +kernel
theorem dX10_helps_186 : decode cX10_helps 186 = .ok (.aload_n 0, 1) := by decide +kernel
theorem dX10_helps_187 : decode cX10_helps 187 = .ok (.getfield 17, 3) := by decide +kernel
theorem dX10_helps_190 : decode cX10_helps 190 = .ok (.iload_n 3, 1) := by decide +kernel
theorem dX10_helps_191 : decode cX10_helps 191 = .ok (.aload_n 0, 1) := by decide +kernel
theorem dX10_helps_192 : decode cX10_helps 192 = .ok (.getfield 80, 3) := by decide +kernel
theorem dX10_helps_195 : decode cX10_helps 195 = .ok (.iload_n 3, 1) := by decide +kernel
theorem dX10_helps_196 : decode cX10_helps 196 = .ok (.iaload, 1) := by decide +kernel
theorem dX10_helps_197 : decode cX10_helps 197 = .ok (.iastore, 1) := by decide +kernel
theorem dX10_helps_198 : decode cX10_helps 198 = .ok (.iinc 3 1, 3) := by decide +kernel
theorem dX10_helps_201 : decode cX10_helps 201 = .ok (.goto (-21), 3) := by decide +kernel
theorem dX10_helps_204 : decode cX10_helps 204 = .ok (.iload_n 2, 1) := by decide +kernel
theorem dX10_helps_205 : decode cX10_helps 205 = .ok (.ireturn, 1) := by decide +kernel
theorem dX10_help_0 : decode cX10_help 0 = .ok (.iconst 0, 1) := by decide +kernel
theorem dX10_help_1 : decode cX10_help 1 = .ok (.istore_n 1, 1) := by decide +kernel
theorem dX10_help_2 : decode cX10_help 2 = .ok (.iload_n 1, 1) := by decide +kernel
theorem dX10_help_3 : decode cX10_help 3 = .ok (.aload_n 0, 1) := by decide +kernel
theorem dX10_help_4 : decode cX10_help 4 = .ok (.getfield 153, 3) := by decide +kernel
theorem dX10_help_7 : decode cX10_help 7 = .ok (.if_icmp .gt 45, 3) := by decide +kernel
theorem dX10_help_10 : decode cX10_help 10 = .ok (.iconst 0, 1) := by decide +kernel
theorem dX10_help_11 : decode cX10_help 11 = .ok (.istore_n 2, 1) := by decide +kernel
theorem dX10_help_12 : decode cX10_help 12 = .ok (.iload_n 2, 1) := by decide +kernel
theorem dX10_help_13 : decode cX10_help 13 = .ok (.iconst 1, 1) := by decide +kernel
theorem dX10_help_14 : decode cX10_help 14 = .ok (.aload_n 0, 1) := by decide +kernel
theorem dX10_help_15 : decode cX10_help 15 = .ok (.getfield 153, 3) := by decide +kernel
theorem dX10_help_18 : decode cX10_help 18 = .ok (.ishl, 1) := by decide +kernel
theorem dX10_help_19 : decode cX10_help 19 = .ok (.if_icmp .ge 27, 3) := by decide +kernel
theorem dX10_help_22 : decode cX10_help 22 = .ok (.iload_n 2, 1) := by decide +kernel
theorem dX10_help_23 : decode cX10_help 23 = .ok (.invokestatic 346, 3) := by decide +kernel
theorem dX10_help_26 : decode cX10_help 26 = .ok (.iload_n 1, 1) := by decide +kernel
theorem dX10_help_27 : decode cX10_help 27 = .ok (.if_icmp .ne 13, 3) := by decide +kernel
theorem dX10_help_30 : decode cX10_help 30 = .ok (.aload_n 0, 1) := by decide +kernel
theorem dX10_help_31 : decode cX10_help 31 = .ok (.iload_n 2, 1) := by decide +kernel
theorem dX10_help_32 : decode cX10_help 32 = .ok (.invokevirtual 349, 3) := by decide +kernel
theorem dX10_help_35 : decode cX10_help 35 = .ok (.ifCond .eq 5, 3) := by decide +kernel
theorem dX10_help_38 : decode cX10_help 38 = .ok (.iload_n 2, 1) := by decide +kernel
theorem dX10_help_39 : decode cX10_help 39 = .ok (.ireturn, 1) := by decide +kernel
theorem dX10_help_40 : decode cX10_help 40 = .ok (.iinc 2 1, 3) := by decide +kernel
theorem dX10_help_43 : decode cX10_help 43 = .ok (.goto (-31), 3) := by decide +kernel
theorem dX10_help_46 : decode cX10_help 46 = .ok (.iinc 1 1, 3) := by decide +kernel
theorem dX10_help_49 : decode cX10_help 49 = .ok (.goto (-47), 3) := by decide +kernel
theorem dX10_help_52 : decode cX10_help 52 = .ok (.bipush (-3), 2) := by decide +kernel
theorem dX10_help_54 : decode cX10_help 54 = .ok (.ireturn, 1) := by decide +kernel
theorem dX10_measured_0 : decode cX10_measured 0 = .ok (.iload_n 1, 1) := by decide +kernel
theorem dX10_measured_1 : decode cX10_measured 1 = .ok (.iconst 2, 1) := by decide +kernel
theorem dX10_measured_2 : decode cX10_measured 2 = .ok (.iconst 4, 1) := by decide +kernel
theorem dX10_measured_3 : decode cX10_measured 3 = .ok (.invokestatic 114, 3) := by decide +kernel
theorem dX10_measured_6 : decode cX10_measured 6 = .ok (.ifCond .eq 13, 3) := by decide +kernel
theorem dX10_measured_9 : decode cX10_measured 9 = .ok (.iload_n 2, 1) := by decide +kernel
theorem dX10_measured_10 : decode cX10_measured 10 = .ok (.iconst (-1), 1) := by decide +kernel
theorem dX10_measured_11 : decode cX10_measured 11 = .ok (.bipush 20, 2) := by decide +kernel
theorem dX10_measured_13 : decode cX10_measured 13 = .ok (.invokestatic 114, 3) := by decide +kernel
theorem dX10_measured_16 : decode cX10_measured 16 = .ok (.ifCond .ne 6, 3) := by decide +kernel
theorem dX10_measured_19 : decode cX10_measured 19 = .ok (.bipush (-9), 2) := by decide +kernel
theorem dX10_measured_21 : decode cX10_measured 21 = .ok (.ireturn, 1) := by decide +kernel
theorem dX10_measured_22 : decode cX10_measured 22 = .ok (.aload_n 0, 1) := by decide +kernel
theorem dX10_measured_23 : decode cX10_measured 23 = .ok (.getfield 26, 3) := by decide +kernel
theorem dX10_measured_26 : decode cX10_measured 26 = .ok (.iload_n 1, 1) := by decide +kernel
theorem dX10_measured_27 : decode cX10_measured 27 = .ok (.iconst 2, 1) := by decide +kernel
theorem dX10_measured_28 : decode cX10_measured 28 = .ok (.isub, 1) := by decide +kernel
theorem dX10_measured_29 : decode cX10_measured 29 = .ok (.iaload, 1) := by decide +kernel
theorem dX10_measured_30 : decode cX10_measured 30 = .ok (.istore_n 3, 1) := by decide +kernel
theorem dX10_measured_31 : decode cX10_measured 31 = .ok (.aload_n 0, 1) := by decide +kernel
theorem dX10_measured_32 : decode cX10_measured 32 = .ok (.getfield 26, 3) := by decide +kernel
theorem dX10_measured_35 : decode cX10_measured 35 = .ok (.iload_n 1, 1) := by decide +kernel
theorem dX10_measured_36 : decode cX10_measured 36 = .ok (.iconst 2, 1) := by decide +kernel
theorem dX10_measured_37 : decode cX10_measured 37 = .ok (.isub, 1) := by decide +kernel
theorem dX10_measured_38 : decode cX10_measured 38 = .ok (.iload_n 2, 1) := by decide +kernel
theorem dX10_measured_39 : decode cX10_measured 39 = .ok (.iastore, 1) := by decide +kernel
theorem dX10_measured_40 : decode cX10_measured 40 = .ok (.iload_n 3, 1) := by decide +kernel
theorem dX10_measured_41 : decode cX10_measured 41 = .ok (.ireturn, 1) := by decide +kernel
theorem dX10_isAsMeasured_0 : decode cX10_isAsMeasured 0 = .ok (.aload_n 0, 1) := by decide +kernel
theorem dX10_isAsMeasured_1 : decode cX10_isAsMeasured 1 = .ok (.iconst 4, 1) := by decide +kernel
theorem dX10_isAsMeasured_2 : decode cX10_isAsMeasured 2 = .ok (.invokevirtual 188, 3) := by decide +kernel
theorem dX10_isAsMeasured_5 : decode cX10_isAsMeasured 5 = .ok (.aload_n 0, 1) := by decide +kernel
theorem dX10_isAsMeasured_6 : decode cX10_isAsMeasured 6 = .ok (.aload_n 0, 1) := by decide +kernel
theorem dX10_isAsMeasured_7 : decode cX10_isAsMeasured 7 = .ok (.getfield 179, 3) := by decide +kernel
theorem dX10_isAsMeasured_10 : decode cX10_isAsMeasured 10 = .ok (.invokevirtual 166, 3) := by decide +kernel
theorem dX10_isAsMeasured_13 : decode cX10_isAsMeasured 13 = .ok (.iconst 1, 1) := by decide +kernel
theorem dX10_isAsMeasured_14 : decode cX10_isAsMeasured 14 = .ok (.istore_n 1, 1) := by decide +kernel
theorem dX10_isAsMeasured_15 : decode cX10_isAsMeasured 15 = .ok (.iconst 0, 1) := by decide +kernel
theorem dX10_isAsMeasured_16 : decode cX10_isAsMeasured 16 = .ok (.istore_n 2, 1) := by decide +kernel
theorem dX10_isAsMeasured_17 : decode cX10_isAsMeasured 17 = .ok (.iload_n 2, 1) := by decide +kernel
theorem dX10_isAsMeasured_18 : decode cX10_isAsMeasured 18 = .ok (.iconst 3, 1) := by decide +kernel
theorem dX10_isAsMeasured_19 : decode cX10_isAsMeasured 19 = .ok (.if_icmp .ge 45, 3) := by decide +kernel
theorem dX10_isAsMeasured_22 : decode cX10_isAsMeasured 22 = .ok (.iload_n 1, 1) := by decide +kernel
theorem dX10_isAsMeasured_23 : decode cX10_isAsMeasured 23 = .ok (.ifCond .eq 33, 3) := by decide +kernel
theorem dX10_isAsMeasured_26 : decode cX10_isAsMeasured 26 = .ok (.aload_n 0, 1) := by decide +kernel
theorem dX10_isAsMeasured_27 : decode cX10_isAsMeasured 27 = .ok (.getfield 26, 3) := by decide +kernel
theorem dX10_isAsMeasured_30 : decode cX10_isAsMeasured 30 = .ok (.iload_n 2, 1) := by decide +kernel
theorem dX10_isAsMeasured_31 : decode cX10_isAsMeasured 31 = .ok (.iaload, 1) := by decide +kernel
theorem dX10_isAsMeasured_32 : decode cX10_isAsMeasured 32 = .ok (.ifCond .lt 20, 3) := by decide +kernel
theorem dX10_isAsMeasured_35 : decode cX10_isAsMeasured 35 = .ok (.aload_n 0, 1) := by decide +kernel
theorem dX10_isAsMeasured_36 : decode cX10_isAsMeasured 36 = .ok (.getfield 26, 3) := by decide +kernel
theorem dX10_isAsMeasured_39 : decode cX10_isAsMeasured 39 = .ok (.iload_n 2, 1) := by decide +kernel
theorem dX10_isAsMeasured_40 : decode cX10_isAsMeasured 40 = .ok (.iaload, 1) := by decide +kernel
theorem dX10_isAsMeasured_41 : decode cX10_isAsMeasured 41 = .ok (.aload_n 0, 1) := by decide +kernel
theorem dX10_isAsMeasured_42 : decode cX10_isAsMeasured 42 = .ok (.getfield 35, 3) := by decide +kernel
theorem dX10_isAsMeasured_45 : decode cX10_isAsMeasured 45 = .ok (.iconst 2, 1) := by decide +kernel
theorem dX10_isAsMeasured_46 : decode cX10_isAsMeasured 46 = .ok (.iload_n 2, 1) := by decide +kernel
theorem dX10_isAsMeasured_47 : decode cX10_isAsMeasured 47 = .ok (.iadd, 1) := by decide +kernel
theorem dX10_isAsMeasured_48 : decode cX10_isAsMeasured 48 = .ok (.iaload, 1) := by decide +kernel
theorem dX10_isAsMeasured_49 : decode cX10_isAsMeasured 49 = .ok (.if_icmp .ne 7, 3) := by decide +kernel
theorem dX10_isAsMeasured_52 : decode cX10_isAsMeasured 52 = .ok (.iconst 1, 1) := by decide +kernel
theorem dX10_isAsMeasured_53 : decode cX10_isAsMeasured 53 = .ok (.goto 4, 3) := by decide +kernel
theorem dX10_isAsMeasured_56 : decode cX10_isAsMeasured 56 = .ok (.iconst 0, 1) := by decide +kernel
