/-! printed by wip/whole/gen.py: the methods as plain functions, each proved to be what its bytecode does -/
theorem dX12_decide_0 : decode cX12_decide 0 = .ok (.iload_n 1, 1) := by decide +kernel
theorem dX12_decide_1 : decode cX12_decide 1 = .ok (.iconst 0, 1) := by decide +kernel
theorem dX12_decide_2 : decode cX12_decide 2 = .ok (.iconst 5, 1) := by decide +kernel
theorem dX12_decide_3 : decode cX12_decide 3 = .ok (.invokestatic 10, 3) := by decide +kernel
theorem dX12_decide_6 : decode cX12_decide 6 = .ok (.ifCond .eq 17, 3) := by decide +kernel
theorem dX12_decide_9 : decode cX12_decide 9 = .ok (.aload_n 0, 1) := by decide +kernel
theorem dX12_decide_10 : decode cX12_decide 10 = .ok (.aload_n 0, 1) := by decide +kernel
theorem dX12_decide_11 : decode cX12_decide 11 = .ok (.getfield 160, 3) := by decide +kernel
theorem dX12_decide_14 : decode cX12_decide 14 = .ok (.ldc_w 325, 3) := by decide +kernel
theorem dX12_decide_17 : decode cX12_decide 17 = .ok (.invokevirtual 288, 3) := by decide +kernel
theorem dX12_decide_20 : decode cX12_decide 20 = .ok (.ifCond .eq 5, 3) := by decide +kernel
theorem dX12_decide_23 : decode cX12_decide 23 = .ok (.iconst (-1), 1) := by decide +kernel
theorem dX12_decide_24 : decode cX12_decide 24 = .ok (.ireturn, 1) := by decide +kernel
theorem dX12_decide_25 : decode cX12_decide 25 = .ok (.aload_n 0, 1) := by decide +kernel
theorem dX12_decide_26 : decode cX12_decide 26 = .ok (.sipush 12800, 3) := by decide +kernel
theorem dX12_decide_29 : decode cX12_decide 29 = .ok (.putfield 153, 3) := by decide +kernel
theorem dX12_decide_32 : decode cX12_decide 32 = .ok (.aload_n 0, 1) := by decide +kernel
theorem dX12_decide_33 : decode cX12_decide 33 = .ok (.aload_n 0, 1) := by decide +kernel
theorem dX12_decide_34 : decode cX12_decide 34 = .ok (.getfield 160, 3) := by decide +kernel
theorem dX12_decide_37 : decode cX12_decide 37 = .ok (.invokevirtual 304, 3) := by decide +kernel
theorem dX12_decide_40 : decode cX12_decide 40 = .ok (.istore_n 2, 1) := by decide +kernel
theorem dX12_decide_41 : decode cX12_decide 41 = .ok (.aload_n 0, 1) := by decide +kernel
theorem dX12_decide_42 : decode cX12_decide 42 = .ok (.getfield 153, 3) := by decide +kernel
theorem dX12_decide_45 : decode cX12_decide 45 = .ok (.istore_n 3, 1) := by decide +kernel
theorem dX12_decide_46 : decode cX12_decide 46 = .ok (.aload_n 0, 1) := by decide +kernel
theorem dX12_decide_47 : decode cX12_decide 47 = .ok (.iconst 0, 1) := by decide +kernel
theorem dX12_decide_48 : decode cX12_decide 48 = .ok (.putfield 310, 3) := by decide +kernel
theorem dX12_decide_51 : decode cX12_decide 51 = .ok (.sipush 12800, 3) := by decide +kernel
theorem dX12_decide_54 : decode cX12_decide 54 = .ok (.istore 4, 2) := by decide +kernel
theorem dX12_decide_56 : decode cX12_decide 56 = .ok (.iload 4, 2) := by decide +kernel
theorem dX12_decide_58 : decode cX12_decide 58 = .ok (.iload_n 3, 1) := by decide +kernel
theorem dX12_decide_59 : decode cX12_decide 59 = .ok (.if_icmp .ge 98, 3) := by decide +kernel
theorem dX12_decide_62 : decode cX12_decide 62 = .ok (.aload_n 0, 1) := by decide +kernel
theorem dX12_decide_63 : decode cX12_decide 63 = .ok (.getfield 72, 3) := by decide +kernel
theorem dX12_decide_66 : decode cX12_decide 66 = .ok (.iload 4, 2) := by decide +kernel
theorem dX12_decide_68 : decode cX12_decide 68 = .ok (.iaload, 1) := by decide +kernel
theorem dX12_decide_69 : decode cX12_decide 69 = .ok (.istore 5, 2) := by decide +kernel
theorem dX12_decide_71 : decode cX12_decide 71 = .ok (.iload 5, 2) := by decide +kernel
theorem dX12_decide_73 : decode cX12_decide 73 = .ok (.iconst 1, 1) := by decide +kernel
theorem dX12_decide_74 : decode cX12_decide 74 = .ok (.if_icmp .eq 16, 3) := by decide +kernel
theorem dX12_decide_77 : decode cX12_decide 77 = .ok (.iload 5, 2) := by decide +kernel
theorem dX12_decide_79 : decode cX12_decide 79 = .ok (.iconst 5, 1) := by decide +kernel
theorem dX12_decide_80 : decode cX12_decide 80 = .ok (.if_icmp .eq 10, 3) := by decide +kernel
theorem dX12_decide_83 : decode cX12_decide 83 = .ok (.iload 5, 2) := by decide +kernel
theorem dX12_decide_85 : decode cX12_decide 85 = .ok (.bipush 8, 2) := by decide +kernel
theorem dX12_decide_87 : decode cX12_decide 87 = .ok (.if_icmp .ne 9, 3) := by decide +kernel
theorem dX12_decide_90 : decode cX12_decide 90 = .ok (.aload_n 0, 1) := by decide +kernel
theorem dX12_decide_91 : decode cX12_decide 91 = .ok (.iload 4, 2) := by decide +kernel
theorem dX12_decide_93 : decode cX12_decide 93 = .ok (.invokevirtual 326, 3) := by decide +kernel
theorem dX12_decide_96 : decode cX12_decide 96 = .ok (.iconst 0, 1) := by decide +kernel
theorem dX12_decide_97 : decode cX12_decide 97 = .ok (.istore 6, 2) := by decide +kernel
theorem dX12_decide_99 : decode cX12_decide 99 = .ok (.iload 6, 2) := by decide +kernel
theorem dX12_decide_101 : decode cX12_decide 101 = .ok (.iconst 4, 1) := by decide +kernel
theorem dX12_decide_102 : decode cX12_decide 102 = .ok (.if_icmp .ge 49, 3) := by decide +kernel
theorem dX12_decide_105 : decode cX12_decide 105 = .ok (.iload 5, 2) := by decide +kernel
theorem dX12_decide_107 : decode cX12_decide 107 = .ok (.bipush 8, 2) := by decide +kernel
theorem dX12_decide_109 : decode cX12_decide 109 = .ok (.if_icmp .ne 42, 3) := by decide +kernel
theorem dX12_decide_112 : decode cX12_decide 112 = .ok (.aload_n 0, 1) := by decide +kernel
theorem dX12_decide_113 : decode cX12_decide 113 = .ok (.getfield 81, 3) := by decide +kernel
theorem dX12_decide_116 : decode cX12_decide 116 = .ok (.iload 4, 2) := by decide +kernel
theorem dX12_decide_118 : decode cX12_decide 118 = .ok (.iaload, 1) := by decide +kernel
theorem dX12_decide_119 : decode cX12_decide 119 = .ok (.iload 6, 2) := by decide +kernel
theorem dX12_decide_121 : decode cX12_decide 121 = .ok (.ishr, 1) := by decide +kernel
theorem dX12_decide_122 : decode cX12_decide 122 = .ok (.iconst 1, 1) := by decide +kernel
theorem dX12_decide_123 : decode cX12_decide 123 = .ok (.iand, 1) := by decide +kernel
theorem dX12_decide_124 : decode cX12_decide 124 = .ok (.iconst 1, 1) := by decide +kernel
theorem dX12_decide_125 : decode cX12_decide 125 = .ok (.if_icmp .ne 20, 3) := by decide +kernel
theorem dX12_decide_128 : decode cX12_decide 128 = .ok (.aload_n 0, 1) := by decide +kernel
theorem dX12_decide_129 : decode cX12_decide 129 = .ok (.aload_n 0, 1) := by decide +kernel
theorem dX12_decide_130 : decode cX12_decide 130 = .ok (.iconst 5, 1) := by decide +kernel
theorem dX12_decide_131 : decode cX12_decide 131 = .ok (.iload 4, 2) := by decide +kernel
theorem dX12_decide_133 : decode cX12_decide 133 = .ok (.bipush (-2), 2) := by decide +kernel
theorem dX12_decide_135 : decode cX12_decide 135 = .ok (.iconst 1, 1) := by decide +kernel
theorem dX12_decide_136 : decode cX12_decide 136 = .ok (.iload 6, 2) := by decide +kernel
theorem dX12_decide_138 : decode cX12_decide 138 = .ok (.ishl, 1) := by decide +kernel
theorem dX12_decide_139 : decode cX12_decide 139 = .ok (.invokevirtual 307, 3) := by decide +kernel
theorem dX12_decide_142 : decode cX12_decide 142 = .ok (.invokevirtual 326, 3) := by decide +kernel
theorem dX12_decide_145 : decode cX12_decide 145 = .ok (.iinc 6 1, 3) := by decide +kernel
theorem dX12_decide_148 : decode cX12_decide 148 = .ok (.goto (-49), 3) := by decide +kernel
theorem dX12_decide_151 : decode cX12_decide 151 = .ok (.iinc 4 1, 3) := by decide +kernel
theorem dX12_decide_154 : decode cX12_decide 154 = .ok (.goto (-98), 3) := by decide +kernel
theorem dX12_decide_157 : decode cX12_decide 157 = .ok (.aload_n 0, 1) := by decide +kernel
theorem dX12_decide_158 : decode cX12_decide 158 = .ok (.getfield 310, 3) := by decide +kernel
theorem dX12_decide_161 : decode cX12_decide 161 = .ok (.bipush 13, 2) := by decide +kernel
theorem dX12_decide_163 : decode cX12_decide 163 = .ok (.if_icmp .le 6, 3) := by decide +kernel
theorem dX12_decide_166 : decode cX12_decide 166 = .ok (.bipush (-3), 2) := by decide +kernel
theorem dX12_decide_168 : decode cX12_decide 168 = .ok (.ireturn, 1) := by decide +kernel
theorem dX12_decide_169 : decode cX12_decide 169 = .ok (.aload_n 0, 1) := by decide +kernel
theorem dX12_decide_170 : decode cX12_decide 170 = .ok (.getfield 153, 3) := by decide +kernel
theorem dX12_decide_173 : decode cX12_decide 173 = .ok (.istore_n 3, 1) := by decide +kernel
theorem dX12_decide_174 : decode cX12_decide 174 = .ok (.iconst 1, 1) := by decide +kernel
theorem dX12_decide_175 : decode cX12_decide 175 = .ok (.aload_n 0, 1) := by decide +kernel
theorem dX12_decide_176 : decode cX12_decide 176 = .ok (.getfield 310, 3) := by decide +kernel
theorem dX12_decide_179 : decode cX12_decide 179 = .ok (.ishl, 1) := by decide +kernel
theorem dX12_decide_180 : decode cX12_decide 180 = .ok (.istore 4, 2) := by decide +kernel
theorem dX12_decide_182 : decode cX12_decide 182 = .ok (.iconst 0, 1) := by decide +kernel
theorem dX12_decide_183 : decode cX12_decide 183 = .ok (.istore 5, 2) := by decide +kernel
theorem dX12_decide_185 : decode cX12_decide 185 = .ok (.iconst 0, 1) := by decide +kernel
theorem dX12_decide_186 : decode cX12_decide 186 = .ok (.istore 6, 2) := by decide +kernel
theorem dX12_decide_188 : decode cX12_decide 188 = .ok (.iload 6, 2) := by decide +kernel
theorem dX12_decide_190 : decode cX12_decide 190 = .ok (.iload 4, 2) := by decide +kernel
theorem dX12_decide_192 : decode cX12_decide 192 = .ok (.if_icmp .ge 152, 3) := by decide +kernel
theorem dX12_decide_195 : decode cX12_decide 195 = .ok (.aload_n 0, 1) := by decide +kernel
theorem dX12_decide_196 : decode cX12_decide 196 = .ok (.iload 6, 2) := by decide +kernel
theorem dX12_decide_198 : decode cX12_decide 198 = .ok (.iload_n 3, 1) := by decide +kernel
theorem dX12_decide_199 : decode cX12_decide 199 = .ok (.invokevirtual 329, 3) := by decide +kernel
theorem dX12_decide_202 : decode cX12_decide 202 = .ok (.aload_n 0, 1) := by decide +kernel
theorem dX12_decide_203 : decode cX12_decide 203 = .ok (.getfield 137, 3) := by decide +kernel
theorem dX12_decide_206 : decode cX12_decide 206 = .ok (.iload 6, 2) := by decide +kernel
theorem dX12_decide_208 : decode cX12_decide 208 = .ok (.aload_n 0, 1) := by decide +kernel
theorem dX12_decide_209 : decode cX12_decide 209 = .ok (.iload 6, 2) := by decide +kernel
theorem dX12_decide_211 : decode cX12_decide 211 = .ok (.invokevirtual 332, 3) := by decide +kernel
theorem dX12_decide_214 : decode cX12_decide 214 = .ok (.bastore, 1) := by decide +kernel
theorem dX12_decide_215 : decode cX12_decide 215 = .ok (.iload 5, 2) := by decide +kernel
theorem dX12_decide_217 : decode cX12_decide 217 = .ok (.aload_n 0, 1) := by decide +kernel
theorem dX12_decide_218 : decode cX12_decide 218 = .ok (.getfield 137, 3) := by decide +kernel
theorem dX12_decide_221 : decode cX12_decide 221 = .ok (.iload 6, 2) := by decide +kernel
theorem dX12_decide_223 : decode cX12_decide 223 = .ok (.baload, 1) := by decide +kernel
theorem dX12_decide_224 : decode cX12_decide 224 = .ok (.ifCond .eq 7, 3) := by decide +kernel
theorem dX12_decide_227 : decode cX12_decide 227 = .ok (.iconst 1, 1) := by decide +kernel
theorem dX12_decide_228 : decode cX12_decide 228 = .ok (.goto 4, 3) := by decide +kernel
theorem dX12_decide_231 : decode cX12_decide 231 = .ok (.iconst 0, 1) := by decide +kernel
theorem dX12_decide_232 : decode cX12_decide 232 = .ok (.iadd, 1) := by decide +kernel
theorem dX12_decide_233 : decode cX12_decide 233 = .ok (.istore 5, 2) := by decide +kernel
theorem dX12_decide_235 : decode cX12_decide 235 = .ok (.aload_n 0, 1) := by decide +kernel
theorem dX12_decide_236 : decode cX12_decide 236 = .ok (.getfield 141, 3) := by decide +kernel
theorem dX12_decide_239 : decode cX12_decide 239 = .ok (.iload 6, 2) := by decide +kernel
theorem dX12_decide_241 : decode cX12_decide 241 = .ok (.aload_n 0, 1) := by decide +kernel
theorem dX12_decide_242 : decode cX12_decide 242 = .ok (.getfield 150, 3) := by decide +kernel
theorem dX12_decide_245 : decode cX12_decide 245 = .ok (.iload_n 2, 1) := by decide +kernel
theorem dX12_decide_246 : decode cX12_decide 246 = .ok (.sipush 12800, 3) := by decide +kernel
theorem dX12_decide_249 : decode cX12_decide 249 = .ok (.isub, 1) := by decide +kernel
theorem dX12_decide_250 : decode cX12_decide 250 = .ok (.baload, 1) := by decide +kernel
theorem dX12_decide_251 : decode cX12_decide 251 = .ok (.ifCond .eq 9, 3) := by decide +kernel
theorem dX12_decide_254 : decode cX12_decide 254 = .ok (.sipush 8192, 3) := by decide +kernel
theorem dX12_decide_257 : decode cX12_decide 257 = .ok (.goto 4, 3) := by decide +kernel
theorem dX12_decide_260 : decode cX12_decide 260 = .ok (.iconst 0, 1) := by decide +kernel
theorem dX12_decide_261 : decode cX12_decide 261 = .ok (.iastore, 1) := by decide +kernel
theorem dX12_decide_262 : decode cX12_decide 262 = .ok (.iconst 0, 1) := by decide +kernel
theorem dX12_decide_263 : decode cX12_decide 263 = .ok (.istore 7, 2) := by decide +kernel
theorem dX12_decide_265 : decode cX12_decide 265 = .ok (.iload 7, 2) := by decide +kernel
theorem dX12_decide_267 : decode cX12_decide 267 = .ok (.aload_n 0, 1) := by decide +kernel
theorem dX12_decide_268 : decode cX12_decide 268 = .ok (.getfield 310, 3) := by decide +kernel
theorem dX12_decide_271 : decode cX12_decide 271 = .ok (.if_icmp .ge 67, 3) := by decide +kernel
theorem dX12_decide_274 : decode cX12_decide 274 = .ok (.aload_n 0, 1) := by decide +kernel
theorem dX12_decide_275 : decode cX12_decide 275 = .ok (.getfield 141, 3) := by decide +kernel
theorem dX12_decide_278 : decode cX12_decide 278 = .ok (.iload 6, 2) := by decide +kernel
theorem dX12_decide_280 : decode cX12_decide 280 = .ok (.dup2, 1) := by decide +kernel
theorem dX12_decide_281 : decode cX12_decide 281 = .ok (.iaload, 1) := by decide +kernel
theorem dX12_decide_282 : decode cX12_decide 282 = .ok (.aload_n 0, 1) := by decide +kernel
theorem dX12_decide_283 : decode cX12_decide 283 = .ok (.getfield 72, 3) := by decide +kernel
theorem dX12_decide_286 : decode cX12_decide 286 = .ok (.aload_n 0, 1) := by decide +kernel
theorem dX12_decide_287 : decode cX12_decide 287 = .ok (.getfield 134, 3) := by decide +kernel
theorem dX12_decide_290 : decode cX12_decide 290 = .ok (.iload 7, 2) := by decide +kernel
theorem dX12_decide_292 : decode cX12_decide 292 = .ok (.iaload, 1) := by decide +kernel
theorem dX12_decide_293 : decode cX12_decide 293 = .ok (.iaload, 1) := by decide +kernel
theorem dX12_decide_294 : decode cX12_decide 294 = .ok (.iconst 1, 1) := by decide +kernel
theorem dX12_decide_295 : decode cX12_decide 295 = .ok (.if_icmp .eq 34, 3) := by decide +kernel
theorem dX12_decide_298 : decode cX12_decide 298 = .ok (.aload_n 0, 1) := by decide +kernel
theorem dX12_decide_299 : decode cX12_decide 299 = .ok (.getfield 150, 3) := by decide +kernel
theorem dX12_decide_302 : decode cX12_decide 302 = .ok (.aload_n 0, 1) := by decide +kernel
theorem dX12_decide_303 : decode cX12_decide 303 = .ok (.getfield 75, 3) := by decide +kernel
theorem dX12_decide_306 : decode cX12_decide 306 = .ok (.aload_n 0, 1) := by decide +kernel
theorem dX12_decide_307 : decode cX12_decide 307 = .ok (.getfield 134, 3) := by decide +kernel
theorem dX12_decide_310 : decode cX12_decide 310 = .ok (.iload 7, 2) := by decide +kernel
theorem dX12_decide_312 : decode cX12_decide 312 = .ok (.iaload, 1) := by decide +kernel
theorem dX12_decide_313 : decode cX12_decide 313 = .ok (.iaload, 1) := by decide +kernel
theorem dX12_decide_314 : decode cX12_decide 314 = .ok (.sipush 12800, 3) := by decide +kernel
theorem dX12_decide_317 : decode cX12_decide 317 = .ok (.isub, 1) := by decide +kernel
theorem dX12_decide_318 : decode cX12_decide 318 = .ok (.baload, 1) := by decide +kernel
theorem dX12_decide_319 : decode cX12_decide 319 = .ok (.ifCond .eq 10, 3) := by decide +kernel
theorem dX12_decide_322 : decode cX12_decide 322 = .ok (.iconst 1, 1) := by decide +kernel
theorem dX12_decide_323 : decode cX12_decide 323 = .ok (.iload 7, 2) := by decide +kernel
theorem dX12_decide_325 : decode cX12_decide 325 = .ok (.ishl, 1) := by decide +kernel
theorem dX12_decide_326 : decode cX12_decide 326 = .ok (.goto 4, 3) := by decide +kernel
theorem dX12_decide_329 : decode cX12_decide 329 = .ok (.iconst 0, 1) := by decide +kernel
theorem dX12_decide_330 : decode cX12_decide 330 = .ok (.ior, 1) := by decide +kernel
theorem dX12_decide_331 : decode cX12_decide 331 = .ok (.iastore, 1) := by decide +kernel
theorem dX12_decide_332 : decode cX12_decide 332 = .ok (.iinc 7 1, 3) := by decide +kernel
theorem dX12_decide_335 : decode cX12_decide 335 = .ok (.goto (-70), 3) := by decide +kernel
theorem dX12_decide_338 : decode cX12_decide 338 = .ok (.iinc 6 1, 3) := by decide +kernel
theorem dX12_decide_341 : decode cX12_decide 341 = .ok (.goto (-153), 3) := by decide +kernel
theorem dX12_decide_344 : decode cX12_decide 344 = .ok (.iconst 1, 1) := by decide +kernel
theorem dX12_decide_345 : decode cX12_decide 345 = .ok (.istore 6, 2) := by decide +kernel
theorem dX12_decide_347 : decode cX12_decide 347 = .ok (.iload 6, 2) := by decide +kernel
theorem dX12_decide_349 : decode cX12_decide 349 = .ok (.ifCond .eq 66, 3) := by decide +kernel
theorem dX12_decide_352 : decode cX12_decide 352 = .ok (.iconst 0, 1) := by decide +kernel
theorem dX12_decide_353 : decode cX12_decide 353 = .ok (.istore 6, 2) := by decide +kernel
theorem dX12_decide_355 : decode cX12_decide 355 = .ok (.iconst 0, 1) := by decide +kernel
theorem dX12_decide_356 : decode cX12_decide 356 = .ok (.istore 7, 2) := by decide +kernel
theorem dX12_decide_358 : decode cX12_decide 358 = .ok (.iload 7, 2) := by decide +kernel
theorem dX12_decide_360 : decode cX12_decide 360 = .ok (.aload_n 0, 1) := by decide +kernel
theorem dX12_decide_361 : decode cX12_decide 361 = .ok (.getfield 310, 3) := by decide +kernel
theorem dX12_decide_364 : decode cX12_decide 364 = .ok (.if_icmp .ge 48, 3) := by decide +kernel
theorem dX12_decide_367 : decode cX12_decide 367 = .ok (.aload_n 0, 1) := by decide +kernel
theorem dX12_decide_368 : decode cX12_decide 368 = .ok (.getfield 72, 3) := by decide +kernel
theorem dX12_decide_371 : decode cX12_decide 371 = .ok (.aload_n 0, 1) := by decide +kernel
theorem dX12_decide_372 : decode cX12_decide 372 = .ok (.getfield 134, 3) := by decide +kernel
theorem dX12_decide_375 : decode cX12_decide 375 = .ok (.iload 7, 2) := by decide +kernel
theorem dX12_decide_377 : decode cX12_decide 377 = .ok (.iaload, 1) := by decide +kernel
theorem dX12_decide_378 : decode cX12_decide 378 = .ok (.iaload, 1) := by decide +kernel
theorem dX12_decide_379 : decode cX12_decide 379 = .ok (.iconst 1, 1) := by decide +kernel
theorem dX12_decide_380 : decode cX12_decide 380 = .ok (.if_icmp .eq 14, 3) := by decide +kernel
theorem dX12_decide_383 : decode cX12_decide 383 = .ok (.aload_n 0, 1) := by decide +kernel
theorem dX12_decide_384 : decode cX12_decide 384 = .ok (.iload 7, 2) := by decide +kernel
theorem dX12_decide_386 : decode cX12_decide 386 = .ok (.iload 4, 2) := by decide +kernel
theorem dX12_decide_388 : decode cX12_decide 388 = .ok (.invokevirtual 335, 3) := by decide +kernel
theorem dX12_decide_391 : decode cX12_decide 391 = .ok (.ifCond .ne 8, 3) := by decide +kernel
theorem dX12_decide_394 : decode cX12_decide 394 = .ok (.iload 6, 2) := by decide +kernel
theorem dX12_decide_396 : decode cX12_decide 396 = .ok (.ifCond .eq 7, 3) := by decide +kernel
theorem dX12_decide_399 : decode cX12_decide 399 = .ok (.iconst 1, 1) := by decide +kernel
theorem dX12_decide_400 : decode cX12_decide 400 = .ok (.goto 4, 3) := by decide +kernel
theorem dX12_decide_403 : decode cX12_decide 403 = .ok (.iconst 0, 1) := by decide +kernel
theorem dX12_decide_404 : decode cX12_decide 404 = .ok (.istore 6, 2) := by decide +kernel
theorem dX12_decide_406 : decode cX12_decide 406 = .ok (.iinc 7 1, 3) := by decide +kernel
theorem dX12_decide_409 : decode cX12_decide 409 = .ok (.goto (-51), 3) := by decide +kernel
theorem dX12_decide_412 : decode cX12_decide 412 = .ok (.goto (-65), 3) := by decide +kernel
theorem dX12_decide_415 : decode cX12_decide 415 = .ok (.iconst 0, 1) := by decide +kernel
theorem dX12_decide_416 : decode cX12_decide 416 = .ok (.istore 7, 2) := by decide +kernel
theorem dX12_decide_418 : decode cX12_decide 418 = .ok (.iconst 0, 1) := by decide +kernel
theorem dX12_decide_419 : decode cX12_decide 419 = .ok (.istore 8, 2) := by decide +kernel
theorem dX12_decide_421 : decode cX12_decide 421 = .ok (.iconst 0, 1) := by decide +kernel
theorem dX12_decide_422 : decode cX12_decide 422 = .ok (.istore 9, 2) := by decide +kernel
theorem dX12_decide_424 : decode cX12_decide 424 = .ok (.iload 9, 2) := by decide +kernel
theorem dX12_decide_426 : decode cX12_decide 426 = .ok (.iload 4, 2) := by decide +kernel
theorem dX12_decide_428 : decode cX12_decide 428 = .ok (.if_icmp .ge 63, 3) := by decide +kernel
theorem dX12_decide_431 : decode cX12_decide 431 = .ok (.iload 7, 2) := by decide +kernel
theorem dX12_decide_433 : decode cX12_decide 433 = .ok (.aload_n 0, 1) := by decide +kernel
theorem dX12_decide_434 : decode cX12_decide 434 = .ok (.getfield 137, 3) := by decide +kernel
theorem dX12_decide_437 : decode cX12_decide 437 = .ok (.iload 9, 2) := by decide +kernel
theorem dX12_decide_439 : decode cX12_decide 439 = .ok (.baload, 1) := by decide +kernel
theorem dX12_decide_440 : decode cX12_decide 440 = .ok (.ifCond .eq 7, 3) := by decide +kernel
theorem dX12_decide_443 : decode cX12_decide 443 = .ok (.iconst 1, 1) := by decide +kernel
theorem dX12_decide_444 : decode cX12_decide 444 = .ok (.goto 4, 3) := by decide +kernel
theorem dX12_decide_447 : decode cX12_decide 447 = .ok (.iconst 0, 1) := by decide +kernel
theorem dX12_decide_448 : decode cX12_decide 448 = .ok (.iadd, 1) := by decide +kernel
theorem dX12_decide_449 : decode cX12_decide 449 = .ok (.istore 7, 2) := by decide +kernel
theorem dX12_decide_451 : decode cX12_decide 451 = .ok (.iload 8, 2) := by decide +kernel
theorem dX12_decide_453 : decode cX12_decide 453 = .ok (.aload_n 0, 1) := by decide +kernel
theorem dX12_decide_454 : decode cX12_decide 454 = .ok (.getfield 137, 3) := by decide +kernel
theorem dX12_decide_457 : decode cX12_decide 457 = .ok (.iload 9, 2) := by decide +kernel
theorem dX12_decide_459 : decode cX12_decide 459 = .ok (.baload, 1) := by decide +kernel
theorem dX12_decide_460 : decode cX12_decide 460 = .ok (.ifCond .eq 21, 3) := by decide +kernel
theorem dX12_decide_463 : decode cX12_decide 463 = .ok (.aload_n 0, 1) := by decide +kernel
theorem dX12_decide_464 : decode cX12_decide 464 = .ok (.getfield 141, 3) := by decide +kernel
theorem dX12_decide_467 : decode cX12_decide 467 = .ok (.iload 9, 2) := by decide +kernel
theorem dX12_decide_469 : decode cX12_decide 469 = .ok (.iaload, 1) := by decide +kernel
theorem dX12_decide_470 : decode cX12_decide 470 = .ok (.bipush 13, 2) := by decide +kernel
theorem dX12_decide_472 : decode cX12_decide 472 = .ok (.ishr, 1) := by decide +kernel
theorem dX12_decide_473 : decode cX12_decide 473 = .ok (.iconst 1, 1) := by decide +kernel
theorem dX12_decide_474 : decode cX12_decide 474 = .ok (.if_icmp .ne 7, 3) := by decide +kernel
theorem dX12_decide_477 : decode cX12_decide 477 = .ok (.iconst 1, 1) := by decide +kernel
theorem dX12_decide_478 : decode cX12_decide 478 = .ok (.goto 4, 3) := by decide +kernel
theorem dX12_decide_481 : decode cX12_decide 481 = .ok (.iconst 0, 1) := by decide +kernel
theorem dX12_decide_482 : decode cX12_decide 482 = .ok (.iadd, 1) := by decide +kernel
theorem dX12_decide_483 : decode cX12_decide 483 = .ok (.istore 8, 2) := by decide +kernel
theorem dX12_decide_485 : decode cX12_decide 485 = .ok (.iinc 9 1, 3) := by decide +kernel
theorem dX12_decide_488 : decode cX12_decide 488 = .ok (.goto (-64), 3) := by decide +kernel
theorem dX12_decide_491 : decode cX12_decide 491 = .ok (.iload_n 1, 1) := by decide +kernel
theorem dX12_decide_492 : decode cX12_decide 492 = .ok (.tableswitch 71 0 4 #[36, 47, 60, 65, 68], 36) := by decide +kernel
theorem dX12_decide_528 : decode cX12_decide 528 = .ok (.iload 8, 2) := by decide +kernel
theorem dX12_decide_530 : decode cX12_decide 530 = .ok (.ifCond .le 7, 3) := by decide +kernel
theorem dX12_decide_533 : decode cX12_decide 533 = .ok (.iconst 1, 1) := by decide +kernel
theorem dX12_decide_534 : decode cX12_decide 534 = .ok (.goto 4, 3) := by decide +kernel
theorem dX12_decide_537 : decode cX12_decide 537 = .ok (.iconst 0, 1) := by decide +kernel
theorem dX12_decide_538 : decode cX12_decide 538 = .ok (.ireturn, 1) := by decide +kernel
theorem dX12_decide_539 : decode cX12_decide 539 = .ok (.iload 8, 2) := by decide +kernel
theorem dX12_decide_541 : decode cX12_decide 541 = .ok (.iload 7, 2) := by decide +kernel
theorem dX12_decide_543 : decode cX12_decide 543 = .ok (.if_icmp .ne 7, 3) := by decide +kernel
theorem dX12_decide_546 : decode cX12_decide 546 = .ok (.iconst 1, 1) := by decide +kernel
theorem dX12_decide_547 : decode cX12_decide 547 = .ok (.goto 4, 3) := by decide +kernel
theorem dX12_decide_550 : decode cX12_decide 550 = .ok (.iconst 0, 1) := by decide +kernel
theorem dX12_decide_551 : decode cX12_decide 551 = .ok (.ireturn, 1) := by decide +kernel
theorem dX12_decide_552 : decode cX12_decide 552 = .ok (.aload_n 0, 1) := by decide +kernel
theorem dX12_decide_553 : decode cX12_decide 553 = .ok (.getfield 310, 3) := by decide +kernel
theorem dX12_decide_556 : decode cX12_decide 556 = .ok (.ireturn, 1) := by decide +kernel
theorem dX12_decide_557 : decode cX12_decide 557 = .ok (.iload 5, 2) := by decide +kernel
theorem dX12_decide_559 : decode cX12_decide 559 = .ok (.ireturn, 1) := by decide +kernel
theorem dX12_decide_560 : decode cX12_decide 560 = .ok (.iload 7, 2) := by decide +kernel
theorem dX12_decide_562 : decode cX12_decide 562 = .ok (.ireturn, 1) := by decide +kernel
theorem dX12_decide_563 : decode cX12_decide 563 = .ok (.iload 8, 2) := by decide +kernel
theorem dX12_decide_565 : decode cX12_decide 565 = .ok (.ireturn, 1) := by decide +kernel
def f_X12_decide_145 (F P : Nat) (S : xSt) (rec_56 : Nat → Int32 → Int32 → Int32 → Int32 → xDt → Option (Int32 × xDt)) (rec_99 : Nat → Int32 → Int32 → Int32 → Int32 → Int32 → Int32 → xDt → Option (Int32 × xDt)) (v0 : Nat) (v1 : Int32) (v2 : Int32) (v3 : Int32) (v4 : Int32) (v5 : Int32) (v6 : Int32) (D : xDt) : Option (Int32 × xDt) :=
  xlet (v6 + 1) fun v6_1 => rec_99 v0 v1 v2 v3 v4 v5 v6_1 D
set_option maxHeartbeats 4000000 in
theorem t_X12_decide_145 {F P : Nat} {S : xSt} (hS : xWF S) {rec_56 : Nat → Int32 → Int32 → Int32 → Int32 → xDt → Option (Int32 × xDt)} (hrec_56 : ∀ {v0 : Nat} {v1 : Int32} {v2 : Int32} {v3 : Int32} {v4 : Int32} {D : xDt} {r : Int32 × xDt}, xK S v0 12 → rec_56 v0 v1 v2 v3 v4 D = some r → yEx md_X12_decide (P + 3) 56 [(0, .ref v0), (1, .int v1), (2, .int v2), (3, .int v3), (4, .int v4)] [] S D (xQi S r)) {rec_99 : Nat → Int32 → Int32 → Int32 → Int32 → Int32 → Int32 → xDt → Option (Int32 × xDt)} (hrec_99 : ∀ {v0 : Nat} {v1 : Int32} {v2 : Int32} {v3 : Int32} {v4 : Int32} {v5 : Int32} {v6 : Int32} {D : xDt} {r : Int32 × xDt}, xK S v0 12 → rec_99 v0 v1 v2 v3 v4 v5 v6 D = some r → yEx md_X12_decide (P + 3) 99 [(0, .ref v0), (1, .int v1), (2, .int v2), (3, .int v3), (4, .int v4), (5, .int v5), (6, .int v6)] [] S D (xQi S r)) {v0 : Nat} {v1 : Int32} {v2 : Int32} {v3 : Int32} {v4 : Int32} {v5 : Int32} {v6 : Int32} {D : xDt} {r : Int32 × xDt} (k0 : xK S v0 12) (h : f_X12_decide_145 F P S rec_56 rec_99 v0 v1 v2 v3 v4 v5 v6 D = some r) : yEx md_X12_decide (P + 3) 145 [(0, .ref v0), (1, .int v1), (2, .int v2), (3, .int v3), (4, .int v4), (5, .int v5), (6, .int v6)] [] S D (xQi S r) := by
  unfold f_X12_decide_145 at h
  refine xlet_e h (fun v6_1 ev6_1 h => ?_)
  refine y_iinc v6_1 ev6_1 (by decide) [(6, .int v6_1), (0, .ref v0), (1, .int v1), (2, .int v2), (3, .int v3), (4, .int v4), (5, .int v5)] dX12_decide_145 6 rfl (by show _ < 10; decide) rfl ?_
  refine x_goto 99 dX12_decide_148 (by decide) ?_
  refine x_lv (lv' := [(0, .ref v0), (1, .int v1), (2, .int v2), (3, .int v3), (4, .int v4), (5, .int v5), (6, .int v6_1)]) [1, 2, 3, 4, 5, 6, 0] rfl ?_
  exact hrec_99 k0 h

def f_X12_decide_151 (F P : Nat) (S : xSt) (rec_56 : Nat → Int32 → Int32 → Int32 → Int32 → xDt → Option (Int32 × xDt)) (v0 : Nat) (v1 : Int32) (v2 : Int32) (v3 : Int32) (v4 : Int32) (D : xDt) : Option (Int32 × xDt) :=
  xlet (v4 + 1) fun v4_1 => rec_56 v0 v1 v2 v3 v4_1 D
set_option maxHeartbeats 4000000 in
theorem t_X12_decide_151 {F P : Nat} {S : xSt} (hS : xWF S) {rec_56 : Nat → Int32 → Int32 → Int32 → Int32 → xDt → Option (Int32 × xDt)} (hrec_56 : ∀ {v0 : Nat} {v1 : Int32} {v2 : Int32} {v3 : Int32} {v4 : Int32} {D : xDt} {r : Int32 × xDt}, xK S v0 12 → rec_56 v0 v1 v2 v3 v4 D = some r → yEx md_X12_decide (P + 3) 56 [(0, .ref v0), (1, .int v1), (2, .int v2), (3, .int v3), (4, .int v4)] [] S D (xQi S r)) {v0 : Nat} {v1 : Int32} {v2 : Int32} {v3 : Int32} {v4 : Int32} {D : xDt} {r : Int32 × xDt} (k0 : xK S v0 12) (h : f_X12_decide_151 F P S rec_56 v0 v1 v2 v3 v4 D = some r) : yEx md_X12_decide (P + 3) 151 [(0, .ref v0), (1, .int v1), (2, .int v2), (3, .int v3), (4, .int v4)] [] S D (xQi S r) := by
  unfold f_X12_decide_151 at h
  refine xlet_e h (fun v4_1 ev4_1 h => ?_)
  refine y_iinc v4_1 ev4_1 (by decide) [(4, .int v4_1), (0, .ref v0), (1, .int v1), (2, .int v2), (3, .int v3)] dX12_decide_151 4 rfl (by show _ < 10; decide) rfl ?_
  refine x_goto 56 dX12_decide_154 (by decide) ?_
  refine x_lv (lv' := [(0, .ref v0), (1, .int v1), (2, .int v2), (3, .int v3), (4, .int v4_1)]) [1, 2, 3, 4, 0] rfl ?_
  exact hrec_56 k0 h

def f_X12_decide_99s (F P : Nat) (S : xSt) (rec_56 : Nat → Int32 → Int32 → Int32 → Int32 → xDt → Option (Int32 × xDt)) (rec_99 : Nat → Int32 → Int32 → Int32 → Int32 → Int32 → Int32 → xDt → Option (Int32 × xDt)) (v0 : Nat) (v1 : Int32) (v2 : Int32) (v3 : Int32) (v4 : Int32) (v5 : Int32) (v6 : Int32) (D : xDt) : Option (Int32 × xDt) :=
  if 4 ≤ v6 then (f_X12_decide_151 F P S rec_56 v0 v1 v2 v3 v4 D) else (if v5 = 8 then (xgrd (xin v4 (xl S (xr S v0 11))) (if ((jishr (D.1 (xr S v0 11) (v4).toNatClampNeg) v6) &&& 1) = 1 then ((f_X12_shared F P S v0 5 v4 (-2) (jishl 1 v6) D).bind fun q2 => (f_X12_inBase F P S v0 q2.1 q2.2).bind fun q3 => f_X12_decide_145 F P S rec_56 rec_99 v0 v1 v2 v3 v4 v5 v6 q3) else (f_X12_decide_145 F P S rec_56 rec_99 v0 v1 v2 v3 v4 v5 v6 D))) else (f_X12_decide_151 F P S rec_56 v0 v1 v2 v3 v4 D))
def f_X12_decide_99 (F P : Nat) (S : xSt) (rec_56 : Nat → Int32 → Int32 → Int32 → Int32 → xDt → Option (Int32 × xDt)) : Nat → Nat → Int32 → Int32 → Int32 → Int32 → Int32 → Int32 → xDt → Option (Int32 × xDt)
  | 0 => fun _ _ _ _ _ _ _ _ => none
  | n + 1 => f_X12_decide_99s F P S rec_56 (f_X12_decide_99 F P S rec_56 n)
set_option maxHeartbeats 4000000 in
theorem t_X12_decide_99s {F P : Nat} {S : xSt} (hS : xWF S) {rec_56 : Nat → Int32 → Int32 → Int32 → Int32 → xDt → Option (Int32 × xDt)} (hrec_56 : ∀ {v0 : Nat} {v1 : Int32} {v2 : Int32} {v3 : Int32} {v4 : Int32} {D : xDt} {r : Int32 × xDt}, xK S v0 12 → rec_56 v0 v1 v2 v3 v4 D = some r → yEx md_X12_decide (P + 3) 56 [(0, .ref v0), (1, .int v1), (2, .int v2), (3, .int v3), (4, .int v4)] [] S D (xQi S r)) {rec_99 : Nat → Int32 → Int32 → Int32 → Int32 → Int32 → Int32 → xDt → Option (Int32 × xDt)} (hrec_99 : ∀ {v0 : Nat} {v1 : Int32} {v2 : Int32} {v3 : Int32} {v4 : Int32} {v5 : Int32} {v6 : Int32} {D : xDt} {r : Int32 × xDt}, xK S v0 12 → rec_99 v0 v1 v2 v3 v4 v5 v6 D = some r → yEx md_X12_decide (P + 3) 99 [(0, .ref v0), (1, .int v1), (2, .int v2), (3, .int v3), (4, .int v4), (5, .int v5), (6, .int v6)] [] S D (xQi S r)) {v0 : Nat} {v1 : Int32} {v2 : Int32} {v3 : Int32} {v4 : Int32} {v5 : Int32} {v6 : Int32} {D : xDt} {r : Int32 × xDt} (k0 : xK S v0 12) (h : f_X12_decide_99s F P S rec_56 rec_99 v0 v1 v2 v3 v4 v5 v6 D = some r) : yEx md_X12_decide (P + 3) 99 [(0, .ref v0), (1, .int v1), (2, .int v2), (3, .int v3), (4, .int v4), (5, .int v5), (6, .int v6)] [] S D (xQi S r) := by
  unfold f_X12_decide_99s at h
  refine x_iload dX12_decide_99 6 rfl ?_
  refine x_iconst 4 dX12_decide_101 (by decide) ?_
  refine x_icmp_ge 151 dX12_decide_102 (by decide) (fun c => ?_) (fun c => ?_)
  · rw [if_pos c] at h
    refine x_lv (lv' := [(0, .ref v0), (1, .int v1), (2, .int v2), (3, .int v3), (4, .int v4)]) [0, 1, 2, 3, 4] rfl ?_
    exact t_X12_decide_151 hS hrec_56 k0 h
  · rw [if_neg c] at h
    refine x_iload dX12_decide_105 5 rfl ?_
    refine x_bipush 8 dX12_decide_107 (by decide) ?_
    refine x_icmp_ne 151 dX12_decide_109 (by decide) (fun c => ?_) (fun c => ?_)
    · rw [if_neg c] at h
      refine x_lv (lv' := [(0, .ref v0), (1, .int v1), (2, .int v2), (3, .int v3), (4, .int v4)]) [0, 1, 2, 3, 4] rfl ?_
      exact t_X12_decide_151 hS hrec_56 k0 h
    · rw [if_pos c] at h
      refine x_aload_n dX12_decide_112 0 rfl ?_
      refine y_getr (kd := 100) hS fl_RX12_81 dX12_decide_113 rfl k0 ?_
      refine x_iload dX12_decide_116 4 rfl ?_
      refine xgrd_e h (fun g1 h => ?_)
      refine y_iald dX12_decide_118 ((hS.f k0 11 100 rfl).2) g1 ?_
      refine x_iload dX12_decide_119 6 rfl ?_
      refine x_ishr dX12_decide_121 ?_
      refine x_iconst 1 dX12_decide_122 (by decide) ?_
      refine x_iand dX12_decide_123 ?_
      refine x_iconst 1 dX12_decide_124 (by decide) ?_
      refine x_icmp_ne 145 dX12_decide_125 (by decide) (fun c => ?_) (fun c => ?_)
      · rw [if_neg c] at h
        exact t_X12_decide_145 hS hrec_56 hrec_99 k0 h
      · rw [if_pos c] at h
        refine x_aload_n dX12_decide_128 0 rfl ?_
        refine x_aload_n dX12_decide_129 0 rfl ?_
        refine x_iconst 5 dX12_decide_130 (by decide) ?_
        refine x_iload dX12_decide_131 4 rfl ?_
        refine x_bipush (-2) dX12_decide_133 (by decide) ?_
        refine x_iconst 1 dX12_decide_135 (by decide) ?_
        refine x_iload dX12_decide_136 6 rfl ?_
        refine x_ishl dX12_decide_138 ?_
        refine xbnd_e h (fun q2 e2 h => ?_)
        refine y_callVi (As := [.int 5, .int v4, .int (-2), .int (jishl 1 v6)]) (q := q2) cv_RX12_307 dX12_decide_139 k0 rfl (Nat.le_of_ble_eq_true rfl) (by omega) (S_X12_shared hS k0 e2) ?_
        refine xbnd_e h (fun q3 e3 h => ?_)
        refine y_callVv (As := [.int q2.1]) (q := q3) cv_RX12_326 dX12_decide_142 k0 rfl (Nat.le_of_ble_eq_true rfl) (by omega) (S_X12_inBase hS k0 e3) ?_
        exact t_X12_decide_145 hS hrec_56 hrec_99 k0 h
theorem t_X12_decide_99 {F P : Nat} {S : xSt} (hS : xWF S) {rec_56 : Nat → Int32 → Int32 → Int32 → Int32 → xDt → Option (Int32 × xDt)} (hrec_56 : ∀ {v0 : Nat} {v1 : Int32} {v2 : Int32} {v3 : Int32} {v4 : Int32} {D : xDt} {r : Int32 × xDt}, xK S v0 12 → rec_56 v0 v1 v2 v3 v4 D = some r → yEx md_X12_decide (P + 3) 56 [(0, .ref v0), (1, .int v1), (2, .int v2), (3, .int v3), (4, .int v4)] [] S D (xQi S r)) : ∀ (n : Nat) {v0 : Nat} {v1 : Int32} {v2 : Int32} {v3 : Int32} {v4 : Int32} {v5 : Int32} {v6 : Int32} {D : xDt} {r : Int32 × xDt}, xK S v0 12 → f_X12_decide_99 F P S rec_56 n v0 v1 v2 v3 v4 v5 v6 D = some r → yEx md_X12_decide (P + 3) 99 [(0, .ref v0), (1, .int v1), (2, .int v2), (3, .int v3), (4, .int v4), (5, .int v5), (6, .int v6)] [] S D (xQi S r) := by
  intro n
  induction n with
  | zero => intros; rename_i h; cases h
  | succ n ih =>
    intro v0 v1 v2 v3 v4 v5 v6 D r k0 h
    exact t_X12_decide_99s hS hrec_56 (fun k0 h => ih k0 h) k0 h

def f_X12_decide_96 (F P : Nat) (S : xSt) (rec_56 : Nat → Int32 → Int32 → Int32 → Int32 → xDt → Option (Int32 × xDt)) (v0 : Nat) (v1 : Int32) (v2 : Int32) (v3 : Int32) (v4 : Int32) (v5 : Int32) (D : xDt) : Option (Int32 × xDt) :=
  f_X12_decide_99 F P S rec_56 F v0 v1 v2 v3 v4 v5 0 D
set_option maxHeartbeats 4000000 in
theorem t_X12_decide_96 {F P : Nat} {S : xSt} (hS : xWF S) {rec_56 : Nat → Int32 → Int32 → Int32 → Int32 → xDt → Option (Int32 × xDt)} (hrec_56 : ∀ {v0 : Nat} {v1 : Int32} {v2 : Int32} {v3 : Int32} {v4 : Int32} {D : xDt} {r : Int32 × xDt}, xK S v0 12 → rec_56 v0 v1 v2 v3 v4 D = some r → yEx md_X12_decide (P + 3) 56 [(0, .ref v0), (1, .int v1), (2, .int v2), (3, .int v3), (4, .int v4)] [] S D (xQi S r)) {v0 : Nat} {v1 : Int32} {v2 : Int32} {v3 : Int32} {v4 : Int32} {v5 : Int32} {D : xDt} {r : Int32 × xDt} (k0 : xK S v0 12) (h : f_X12_decide_96 F P S rec_56 v0 v1 v2 v3 v4 v5 D = some r) : yEx md_X12_decide (P + 3) 96 [(0, .ref v0), (1, .int v1), (2, .int v2), (3, .int v3), (4, .int v4), (5, .int v5)] [] S D (xQi S r) := by
  unfold f_X12_decide_96 at h
  refine x_iconst 0 dX12_decide_96 (by decide) ?_
  refine y_istore 0 rfl [(6, .int 0), (0, .ref v0), (1, .int v1), (2, .int v2), (3, .int v3), (4, .int v4), (5, .int v5)] dX12_decide_97 (by show _ < 10; decide) rfl ?_
  refine x_lv (lv' := [(0, .ref v0), (1, .int v1), (2, .int v2), (3, .int v3), (4, .int v4), (5, .int v5), (6, .int 0)]) [1, 2, 3, 4, 5, 6, 0] rfl ?_
  exact t_X12_decide_99 hS hrec_56 F k0 h

def f_X12_decide_90 (F P : Nat) (S : xSt) (rec_56 : Nat → Int32 → Int32 → Int32 → Int32 → xDt → Option (Int32 × xDt)) (v0 : Nat) (v1 : Int32) (v2 : Int32) (v3 : Int32) (v4 : Int32) (v5 : Int32) (D : xDt) : Option (Int32 × xDt) :=
  (f_X12_inBase F P S v0 v4 D).bind fun q1 => f_X12_decide_96 F P S rec_56 v0 v1 v2 v3 v4 v5 q1
set_option maxHeartbeats 4000000 in
theorem t_X12_decide_90 {F P : Nat} {S : xSt} (hS : xWF S) {rec_56 : Nat → Int32 → Int32 → Int32 → Int32 → xDt → Option (Int32 × xDt)} (hrec_56 : ∀ {v0 : Nat} {v1 : Int32} {v2 : Int32} {v3 : Int32} {v4 : Int32} {D : xDt} {r : Int32 × xDt}, xK S v0 12 → rec_56 v0 v1 v2 v3 v4 D = some r → yEx md_X12_decide (P + 3) 56 [(0, .ref v0), (1, .int v1), (2, .int v2), (3, .int v3), (4, .int v4)] [] S D (xQi S r)) {v0 : Nat} {v1 : Int32} {v2 : Int32} {v3 : Int32} {v4 : Int32} {v5 : Int32} {D : xDt} {r : Int32 × xDt} (k0 : xK S v0 12) (h : f_X12_decide_90 F P S rec_56 v0 v1 v2 v3 v4 v5 D = some r) : yEx md_X12_decide (P + 3) 90 [(0, .ref v0), (1, .int v1), (2, .int v2), (3, .int v3), (4, .int v4), (5, .int v5)] [] S D (xQi S r) := by
  unfold f_X12_decide_90 at h
  refine x_aload_n dX12_decide_90 0 rfl ?_
  refine x_iload dX12_decide_91 4 rfl ?_
  refine xbnd_e h (fun q1 e1 h => ?_)
  refine y_callVv (As := [.int v4]) (q := q1) cv_RX12_326 dX12_decide_93 k0 rfl (Nat.le_of_ble_eq_true rfl) (by omega) (S_X12_inBase hS k0 e1) ?_
  exact t_X12_decide_96 hS hrec_56 k0 h

def f_X12_decide_330 (F P : Nat) (S : xSt) (rec_188 : Nat → Int32 → Int32 → Int32 → Int32 → Int32 → Int32 → xDt → Option (Int32 × xDt)) (rec_265 : Nat → Int32 → Int32 → Int32 → Int32 → Int32 → Int32 → Int32 → xDt → Option (Int32 × xDt)) (v0 : Nat) (v1 : Int32) (v2 : Int32) (v3 : Int32) (v4 : Int32) (v5 : Int32) (v6 : Int32) (v7 : Int32) (s0 : Int32) (s1 : Int32) (s2 : Int32) (s3 : Nat) (D : xDt) : Option (Int32 × xDt) :=
  xgrd (xin s2 (xl S s3)) (xlet (xup D.1 s3 (s2).toNatClampNeg (s1 ||| s0), D.2) fun D2 => xlet (v7 + 1) fun v7_3 => rec_265 v0 v1 v2 v3 v4 v5 v6 v7_3 D2)
set_option maxHeartbeats 4000000 in
theorem t_X12_decide_330 {F P : Nat} {S : xSt} (hS : xWF S) {rec_188 : Nat → Int32 → Int32 → Int32 → Int32 → Int32 → Int32 → xDt → Option (Int32 × xDt)} (hrec_188 : ∀ {v0 : Nat} {v1 : Int32} {v2 : Int32} {v3 : Int32} {v4 : Int32} {v5 : Int32} {v6 : Int32} {D : xDt} {r : Int32 × xDt}, xK S v0 12 → rec_188 v0 v1 v2 v3 v4 v5 v6 D = some r → yEx md_X12_decide (P + 3) 188 [(0, .ref v0), (1, .int v1), (2, .int v2), (3, .int v3), (4, .int v4), (5, .int v5), (6, .int v6)] [] S D (xQi S r)) {rec_265 : Nat → Int32 → Int32 → Int32 → Int32 → Int32 → Int32 → Int32 → xDt → Option (Int32 × xDt)} (hrec_265 : ∀ {v0 : Nat} {v1 : Int32} {v2 : Int32} {v3 : Int32} {v4 : Int32} {v5 : Int32} {v6 : Int32} {v7 : Int32} {D : xDt} {r : Int32 × xDt}, xK S v0 12 → rec_265 v0 v1 v2 v3 v4 v5 v6 v7 D = some r → yEx md_X12_decide (P + 3) 265 [(0, .ref v0), (1, .int v1), (2, .int v2), (3, .int v3), (4, .int v4), (5, .int v5), (6, .int v6), (7, .int v7)] [] S D (xQi S r)) {v0 : Nat} {v1 : Int32} {v2 : Int32} {v3 : Int32} {v4 : Int32} {v5 : Int32} {v6 : Int32} {v7 : Int32} {s0 : Int32} {s1 : Int32} {s2 : Int32} {s3 : Nat} {D : xDt} {r : Int32 × xDt} (k0 : xK S v0 12) (ks3 : xK S s3 100) (h : f_X12_decide_330 F P S rec_188 rec_265 v0 v1 v2 v3 v4 v5 v6 v7 s0 s1 s2 s3 D = some r) : yEx md_X12_decide (P + 3) 330 [(0, .ref v0), (1, .int v1), (2, .int v2), (3, .int v3), (4, .int v4), (5, .int v5), (6, .int v6), (7, .int v7)] [.int s0, .int s1, .int s2, .ref s3] S D (xQi S r) := by
  unfold f_X12_decide_330 at h
  refine x_ior dX12_decide_330 ?_
  refine xgrd_e h (fun g1 h => ?_)
  refine xlet_e h (fun D2 eD2 h => ?_)
  refine y_iast dX12_decide_331 ks3 g1 eD2 ?_
  refine xlet_e h (fun v7_3 ev7_3 h => ?_)
  refine y_iinc v7_3 ev7_3 (by decide) [(7, .int v7_3), (0, .ref v0), (1, .int v1), (2, .int v2), (3, .int v3), (4, .int v4), (5, .int v5), (6, .int v6)] dX12_decide_332 7 rfl (by show _ < 10; decide) rfl ?_
  refine x_goto 265 dX12_decide_335 (by decide) ?_
  refine x_lv (lv' := [(0, .ref v0), (1, .int v1), (2, .int v2), (3, .int v3), (4, .int v4), (5, .int v5), (6, .int v6), (7, .int v7_3)]) [1, 2, 3, 4, 5, 6, 7, 0] rfl ?_
  exact hrec_265 k0 h

def f_X12_decide_329 (F P : Nat) (S : xSt) (rec_188 : Nat → Int32 → Int32 → Int32 → Int32 → Int32 → Int32 → xDt → Option (Int32 × xDt)) (rec_265 : Nat → Int32 → Int32 → Int32 → Int32 → Int32 → Int32 → Int32 → xDt → Option (Int32 × xDt)) (v0 : Nat) (v1 : Int32) (v2 : Int32) (v3 : Int32) (v4 : Int32) (v5 : Int32) (v6 : Int32) (v7 : Int32) (s0 : Int32) (s1 : Int32) (s2 : Nat) (D : xDt) : Option (Int32 × xDt) :=
  f_X12_decide_330 F P S rec_188 rec_265 v0 v1 v2 v3 v4 v5 v6 v7 0 s0 s1 s2 D
set_option maxHeartbeats 4000000 in
theorem t_X12_decide_329 {F P : Nat} {S : xSt} (hS : xWF S) {rec_188 : Nat → Int32 → Int32 → Int32 → Int32 → Int32 → Int32 → xDt → Option (Int32 × xDt)} (hrec_188 : ∀ {v0 : Nat} {v1 : Int32} {v2 : Int32} {v3 : Int32} {v4 : Int32} {v5 : Int32} {v6 : Int32} {D : xDt} {r : Int32 × xDt}, xK S v0 12 → rec_188 v0 v1 v2 v3 v4 v5 v6 D = some r → yEx md_X12_decide (P + 3) 188 [(0, .ref v0), (1, .int v1), (2, .int v2), (3, .int v3), (4, .int v4), (5, .int v5), (6, .int v6)] [] S D (xQi S r)) {rec_265 : Nat → Int32 → Int32 → Int32 → Int32 → Int32 → Int32 → Int32 → xDt → Option (Int32 × xDt)} (hrec_265 : ∀ {v0 : Nat} {v1 : Int32} {v2 : Int32} {v3 : Int32} {v4 : Int32} {v5 : Int32} {v6 : Int32} {v7 : Int32} {D : xDt} {r : Int32 × xDt}, xK S v0 12 → rec_265 v0 v1 v2 v3 v4 v5 v6 v7 D = some r → yEx md_X12_decide (P + 3) 265 [(0, .ref v0), (1, .int v1), (2, .int v2), (3, .int v3), (4, .int v4), (5, .int v5), (6, .int v6), (7, .int v7)] [] S D (xQi S r)) {v0 : Nat} {v1 : Int32} {v2 : Int32} {v3 : Int32} {v4 : Int32} {v5 : Int32} {v6 : Int32} {v7 : Int32} {s0 : Int32} {s1 : Int32} {s2 : Nat} {D : xDt} {r : Int32 × xDt} (k0 : xK S v0 12) (ks2 : xK S s2 100) (h : f_X12_decide_329 F P S rec_188 rec_265 v0 v1 v2 v3 v4 v5 v6 v7 s0 s1 s2 D = some r) : yEx md_X12_decide (P + 3) 329 [(0, .ref v0), (1, .int v1), (2, .int v2), (3, .int v3), (4, .int v4), (5, .int v5), (6, .int v6), (7, .int v7)] [.int s0, .int s1, .ref s2] S D (xQi S r) := by
  unfold f_X12_decide_329 at h
  refine x_iconst 0 dX12_decide_329 (by decide) ?_
  exact t_X12_decide_330 hS hrec_188 hrec_265 k0 ks2 h

def f_X12_decide_265s (F P : Nat) (S : xSt) (rec_188 : Nat → Int32 → Int32 → Int32 → Int32 → Int32 → Int32 → xDt → Option (Int32 × xDt)) (rec_265 : Nat → Int32 → Int32 → Int32 → Int32 → Int32 → Int32 → Int32 → xDt → Option (Int32 × xDt)) (v0 : Nat) (v1 : Int32) (v2 : Int32) (v3 : Int32) (v4 : Int32) (v5 : Int32) (v6 : Int32) (v7 : Int32) (D : xDt) : Option (Int32 × xDt) :=
  if (D.1 v0 38) ≤ v7 then (xlet (v6 + 1) fun v6_1 => rec_188 v0 v1 v2 v3 v4 v5 v6_1 D) else (xgrd (xin v6 (xl S (xr S v0 40))) (xgrd (xin v7 (xl S (xr S v0 37))) (xgrd (xin (D.1 (xr S v0 37) (v7).toNatClampNeg) (xl S (xr S v0 8))) (if (D.1 (xr S v0 8) (D.1 (xr S v0 37) (v7).toNatClampNeg).toNatClampNeg) = 1 then (f_X12_decide_329 F P S rec_188 rec_265 v0 v1 v2 v3 v4 v5 v6 v7 (D.1 (xr S v0 40) (v6).toNatClampNeg) v6 (xr S v0 40) D) else (xgrd (xin v7 (xl S (xr S v0 37))) (xgrd (xin (D.1 (xr S v0 37) (v7).toNatClampNeg) (xl S (xr S v0 9))) (xgrd (xin ((D.1 (xr S v0 9) (D.1 (xr S v0 37) (v7).toNatClampNeg).toNatClampNeg) - 12800) (xl S (xr S v0 43))) (if (D.1 (xr S v0 43) ((D.1 (xr S v0 9) (D.1 (xr S v0 37) (v7).toNatClampNeg).toNatClampNeg) - 12800).toNatClampNeg) = 0 then (f_X12_decide_329 F P S rec_188 rec_265 v0 v1 v2 v3 v4 v5 v6 v7 (D.1 (xr S v0 40) (v6).toNatClampNeg) v6 (xr S v0 40) D) else (f_X12_decide_330 F P S rec_188 rec_265 v0 v1 v2 v3 v4 v5 v6 v7 (jishl 1 v7) (D.1 (xr S v0 40) (v6).toNatClampNeg) v6 (xr S v0 40) D)))))))))
def f_X12_decide_265 (F P : Nat) (S : xSt) (rec_188 : Nat → Int32 → Int32 → Int32 → Int32 → Int32 → Int32 → xDt → Option (Int32 × xDt)) : Nat → Nat → Int32 → Int32 → Int32 → Int32 → Int32 → Int32 → Int32 → xDt → Option (Int32 × xDt)
  | 0 => fun _ _ _ _ _ _ _ _ _ => none
  | n + 1 => f_X12_decide_265s F P S rec_188 (f_X12_decide_265 F P S rec_188 n)
set_option maxHeartbeats 4000000 in
theorem t_X12_decide_265s {F P : Nat} {S : xSt} (hS : xWF S) {rec_188 : Nat → Int32 → Int32 → Int32 → Int32 → Int32 → Int32 → xDt → Option (Int32 × xDt)} (hrec_188 : ∀ {v0 : Nat} {v1 : Int32} {v2 : Int32} {v3 : Int32} {v4 : Int32} {v5 : Int32} {v6 : Int32} {D : xDt} {r : Int32 × xDt}, xK S v0 12 → rec_188 v0 v1 v2 v3 v4 v5 v6 D = some r → yEx md_X12_decide (P + 3) 188 [(0, .ref v0), (1, .int v1), (2, .int v2), (3, .int v3), (4, .int v4), (5, .int v5), (6, .int v6)] [] S D (xQi S r)) {rec_265 : Nat → Int32 → Int32 → Int32 → Int32 → Int32 → Int32 → Int32 → xDt → Option (Int32 × xDt)} (hrec_265 : ∀ {v0 : Nat} {v1 : Int32} {v2 : Int32} {v3 : Int32} {v4 : Int32} {v5 : Int32} {v6 : Int32} {v7 : Int32} {D : xDt} {r : Int32 × xDt}, xK S v0 12 → rec_265 v0 v1 v2 v3 v4 v5 v6 v7 D = some r → yEx md_X12_decide (P + 3) 265 [(0, .ref v0), (1, .int v1), (2, .int v2), (3, .int v3), (4, .int v4), (5, .int v5), (6, .int v6), (7, .int v7)] [] S D (xQi S r)) {v0 : Nat} {v1 : Int32} {v2 : Int32} {v3 : Int32} {v4 : Int32} {v5 : Int32} {v6 : Int32} {v7 : Int32} {D : xDt} {r : Int32 × xDt} (k0 : xK S v0 12) (h : f_X12_decide_265s F P S rec_188 rec_265 v0 v1 v2 v3 v4 v5 v6 v7 D = some r) : yEx md_X12_decide (P + 3) 265 [(0, .ref v0), (1, .int v1), (2, .int v2), (3, .int v3), (4, .int v4), (5, .int v5), (6, .int v6), (7, .int v7)] [] S D (xQi S r) := by
  unfold f_X12_decide_265s at h
  refine x_iload dX12_decide_265 7 rfl ?_
  refine x_aload_n dX12_decide_267 0 rfl ?_
  refine y_geti fl_RX12_310 dX12_decide_268 rfl k0 ?_
  refine x_icmp_ge 338 dX12_decide_271 (by decide) (fun c => ?_) (fun c => ?_)
  · rw [if_pos c] at h
    refine xlet_e h (fun v6_1 ev6_1 h => ?_)
    refine y_iinc v6_1 ev6_1 (by decide) [(6, .int v6_1), (0, .ref v0), (1, .int v1), (2, .int v2), (3, .int v3), (4, .int v4), (5, .int v5), (7, .int v7)] dX12_decide_338 6 rfl (by show _ < 10; decide) rfl ?_
    refine x_goto 188 dX12_decide_341 (by decide) ?_
    refine x_lv (lv' := [(0, .ref v0), (1, .int v1), (2, .int v2), (3, .int v3), (4, .int v4), (5, .int v5), (6, .int v6_1)]) [1, 2, 3, 4, 5, 6, 0] rfl ?_
    exact hrec_188 k0 h
  · rw [if_neg c] at h
    refine x_aload_n dX12_decide_274 0 rfl ?_
    refine y_getr (kd := 100) hS fl_RX12_141 dX12_decide_275 rfl k0 ?_
    refine x_iload dX12_decide_278 6 rfl ?_
    refine x_dup2 dX12_decide_280 rfl rfl ?_
    refine xgrd_e h (fun g2 h => ?_)
    refine y_iald dX12_decide_281 ((hS.f k0 40 100 rfl).2) g2 ?_
    refine x_aload_n dX12_decide_282 0 rfl ?_
    refine y_getr (kd := 100) hS fl_RX12_72 dX12_decide_283 rfl k0 ?_
    refine x_aload_n dX12_decide_286 0 rfl ?_
    refine y_getr (kd := 100) hS fl_RX12_134 dX12_decide_287 rfl k0 ?_
    refine x_iload dX12_decide_290 7 rfl ?_
    refine xgrd_e h (fun g3 h => ?_)
    refine y_iald dX12_decide_292 ((hS.f k0 37 100 rfl).2) g3 ?_
    refine xgrd_e h (fun g4 h => ?_)
    refine y_iald dX12_decide_293 ((hS.f k0 8 100 rfl).2) g4 ?_
    refine x_iconst 1 dX12_decide_294 (by decide) ?_
    refine x_icmp_eq 329 dX12_decide_295 (by decide) (fun c => ?_) (fun c => ?_)
    · rw [if_pos c] at h
      exact t_X12_decide_329 hS hrec_188 hrec_265 k0 ((hS.f k0 40 100 rfl).2) h
    · rw [if_neg c] at h
      refine x_aload_n dX12_decide_298 0 rfl ?_
      refine y_getr (kd := 104) hS fl_RX12_150 dX12_decide_299 rfl k0 ?_
      refine x_aload_n dX12_decide_302 0 rfl ?_
      refine y_getr (kd := 100) hS fl_RX12_75 dX12_decide_303 rfl k0 ?_
      refine x_aload_n dX12_decide_306 0 rfl ?_
      refine y_getr (kd := 100) hS fl_RX12_134 dX12_decide_307 rfl k0 ?_
      refine x_iload dX12_decide_310 7 rfl ?_
      refine xgrd_e h (fun g5 h => ?_)
      refine y_iald dX12_decide_312 ((hS.f k0 37 100 rfl).2) g5 ?_
      refine xgrd_e h (fun g6 h => ?_)
      refine y_iald dX12_decide_313 ((hS.f k0 9 100 rfl).2) g6 ?_
      refine x_sipush 12800 dX12_decide_314 (by decide) ?_
      refine x_isub dX12_decide_317 ?_
      refine xgrd_e h (fun g7 h => ?_)
      refine y_zald dX12_decide_318 ((hS.f k0 43 104 rfl).2) g7 ?_
      refine x_if_eq 329 dX12_decide_319 (by decide) (fun c => ?_) (fun c => ?_)
      · rw [if_pos c] at h
        exact t_X12_decide_329 hS hrec_188 hrec_265 k0 ((hS.f k0 40 100 rfl).2) h
      · rw [if_neg c] at h
        refine x_iconst 1 dX12_decide_322 (by decide) ?_
        refine x_iload dX12_decide_323 7 rfl ?_
        refine x_ishl dX12_decide_325 ?_
        refine x_goto 330 dX12_decide_326 (by decide) ?_
        exact t_X12_decide_330 hS hrec_188 hrec_265 k0 ((hS.f k0 40 100 rfl).2) h
theorem t_X12_decide_265 {F P : Nat} {S : xSt} (hS : xWF S) {rec_188 : Nat → Int32 → Int32 → Int32 → Int32 → Int32 → Int32 → xDt → Option (Int32 × xDt)} (hrec_188 : ∀ {v0 : Nat} {v1 : Int32} {v2 : Int32} {v3 : Int32} {v4 : Int32} {v5 : Int32} {v6 : Int32} {D : xDt} {r : Int32 × xDt}, xK S v0 12 → rec_188 v0 v1 v2 v3 v4 v5 v6 D = some r → yEx md_X12_decide (P + 3) 188 [(0, .ref v0), (1, .int v1), (2, .int v2), (3, .int v3), (4, .int v4), (5, .int v5), (6, .int v6)] [] S D (xQi S r)) : ∀ (n : Nat) {v0 : Nat} {v1 : Int32} {v2 : Int32} {v3 : Int32} {v4 : Int32} {v5 : Int32} {v6 : Int32} {v7 : Int32} {D : xDt} {r : Int32 × xDt}, xK S v0 12 → f_X12_decide_265 F P S rec_188 n v0 v1 v2 v3 v4 v5 v6 v7 D = some r → yEx md_X12_decide (P + 3) 265 [(0, .ref v0), (1, .int v1), (2, .int v2), (3, .int v3), (4, .int v4), (5, .int v5), (6, .int v6), (7, .int v7)] [] S D (xQi S r) := by
  intro n
  induction n with
  | zero => intros; rename_i h; cases h
  | succ n ih =>
    intro v0 v1 v2 v3 v4 v5 v6 v7 D r k0 h
    exact t_X12_decide_265s hS hrec_188 (fun k0 h => ih k0 h) k0 h

def f_X12_decide_261 (F P : Nat) (S : xSt) (rec_188 : Nat → Int32 → Int32 → Int32 → Int32 → Int32 → Int32 → xDt → Option (Int32 × xDt)) (v0 : Nat) (v1 : Int32) (v2 : Int32) (v3 : Int32) (v4 : Int32) (v5 : Int32) (v6 : Int32) (s0 : Int32) (s1 : Int32) (s2 : Nat) (D : xDt) : Option (Int32 × xDt) :=
  xgrd (xin s1 (xl S s2)) (xlet (xup D.1 s2 (s1).toNatClampNeg s0, D.2) fun D2 => f_X12_decide_265 F P S rec_188 F v0 v1 v2 v3 v4 v5 v6 0 D2)
set_option maxHeartbeats 4000000 in
theorem t_X12_decide_261 {F P : Nat} {S : xSt} (hS : xWF S) {rec_188 : Nat → Int32 → Int32 → Int32 → Int32 → Int32 → Int32 → xDt → Option (Int32 × xDt)} (hrec_188 : ∀ {v0 : Nat} {v1 : Int32} {v2 : Int32} {v3 : Int32} {v4 : Int32} {v5 : Int32} {v6 : Int32} {D : xDt} {r : Int32 × xDt}, xK S v0 12 → rec_188 v0 v1 v2 v3 v4 v5 v6 D = some r → yEx md_X12_decide (P + 3) 188 [(0, .ref v0), (1, .int v1), (2, .int v2), (3, .int v3), (4, .int v4), (5, .int v5), (6, .int v6)] [] S D (xQi S r)) {v0 : Nat} {v1 : Int32} {v2 : Int32} {v3 : Int32} {v4 : Int32} {v5 : Int32} {v6 : Int32} {s0 : Int32} {s1 : Int32} {s2 : Nat} {D : xDt} {r : Int32 × xDt} (k0 : xK S v0 12) (ks2 : xK S s2 100) (h : f_X12_decide_261 F P S rec_188 v0 v1 v2 v3 v4 v5 v6 s0 s1 s2 D = some r) : yEx md_X12_decide (P + 3) 261 [(0, .ref v0), (1, .int v1), (2, .int v2), (3, .int v3), (4, .int v4), (5, .int v5), (6, .int v6)] [.int s0, .int s1, .ref s2] S D (xQi S r) := by
  unfold f_X12_decide_261 at h
  refine xgrd_e h (fun g1 h => ?_)
  refine xlet_e h (fun D2 eD2 h => ?_)
  refine y_iast dX12_decide_261 ks2 g1 eD2 ?_
  refine x_iconst 0 dX12_decide_262 (by decide) ?_
  refine y_istore 0 rfl [(7, .int 0), (0, .ref v0), (1, .int v1), (2, .int v2), (3, .int v3), (4, .int v4), (5, .int v5), (6, .int v6)] dX12_decide_263 (by show _ < 10; decide) rfl ?_
  refine x_lv (lv' := [(0, .ref v0), (1, .int v1), (2, .int v2), (3, .int v3), (4, .int v4), (5, .int v5), (6, .int v6), (7, .int 0)]) [1, 2, 3, 4, 5, 6, 7, 0] rfl ?_
  exact t_X12_decide_265 hS hrec_188 F k0 h

def f_X12_decide_232 (F P : Nat) (S : xSt) (rec_188 : Nat → Int32 → Int32 → Int32 → Int32 → Int32 → Int32 → xDt → Option (Int32 × xDt)) (v0 : Nat) (v1 : Int32) (v2 : Int32) (v3 : Int32) (v4 : Int32) (v6 : Int32) (s0 : Int32) (s1 : Int32) (D : xDt) : Option (Int32 × xDt) :=
  xlet (s1 + s0) fun v5_1 => xgrd (xin (v2 - 12800) (xl S (xr S v0 43))) (if (D.1 (xr S v0 43) (v2 - 12800).toNatClampNeg) = 0 then (f_X12_decide_261 F P S rec_188 v0 v1 v2 v3 v4 v5_1 v6 0 v6 (xr S v0 40) D) else (f_X12_decide_261 F P S rec_188 v0 v1 v2 v3 v4 v5_1 v6 8192 v6 (xr S v0 40) D))
set_option maxHeartbeats 4000000 in
theorem t_X12_decide_232 {F P : Nat} {S : xSt} (hS : xWF S) {rec_188 : Nat → Int32 → Int32 → Int32 → Int32 → Int32 → Int32 → xDt → Option (Int32 × xDt)} (hrec_188 : ∀ {v0 : Nat} {v1 : Int32} {v2 : Int32} {v3 : Int32} {v4 : Int32} {v5 : Int32} {v6 : Int32} {D : xDt} {r : Int32 × xDt}, xK S v0 12 → rec_188 v0 v1 v2 v3 v4 v5 v6 D = some r → yEx md_X12_decide (P + 3) 188 [(0, .ref v0), (1, .int v1), (2, .int v2), (3, .int v3), (4, .int v4), (5, .int v5), (6, .int v6)] [] S D (xQi S r)) {v0 : Nat} {v1 : Int32} {v2 : Int32} {v3 : Int32} {v4 : Int32} {v6 : Int32} {s0 : Int32} {s1 : Int32} {D : xDt} {r : Int32 × xDt} (k0 : xK S v0 12) (h : f_X12_decide_232 F P S rec_188 v0 v1 v2 v3 v4 v6 s0 s1 D = some r) : yEx md_X12_decide (P + 3) 232 [(0, .ref v0), (1, .int v1), (2, .int v2), (3, .int v3), (4, .int v4), (6, .int v6)] [.int s0, .int s1] S D (xQi S r) := by
  unfold f_X12_decide_232 at h
  refine x_iadd dX12_decide_232 ?_
  refine xlet_e h (fun v5_1 ev5_1 h => ?_)
  refine y_istore v5_1 ev5_1 [(5, .int v5_1), (0, .ref v0), (1, .int v1), (2, .int v2), (3, .int v3), (4, .int v4), (6, .int v6)] dX12_decide_233 (by show _ < 10; decide) rfl ?_
  refine x_aload_n dX12_decide_235 1 rfl ?_
  refine y_getr (kd := 100) hS fl_RX12_141 dX12_decide_236 rfl k0 ?_
  refine x_iload dX12_decide_239 6 rfl ?_
  refine x_aload_n dX12_decide_241 1 rfl ?_
  refine y_getr (kd := 104) hS fl_RX12_150 dX12_decide_242 rfl k0 ?_
  refine x_iload_n dX12_decide_245 3 rfl ?_
  refine x_sipush 12800 dX12_decide_246 (by decide) ?_
  refine x_isub dX12_decide_249 ?_
  refine xgrd_e h (fun g2 h => ?_)
  refine y_zald dX12_decide_250 ((hS.f k0 43 104 rfl).2) g2 ?_
  refine x_if_eq 260 dX12_decide_251 (by decide) (fun c => ?_) (fun c => ?_)
  · rw [if_pos c] at h
    refine x_iconst 0 dX12_decide_260 (by decide) ?_
    refine x_lv (lv' := [(0, .ref v0), (1, .int v1), (2, .int v2), (3, .int v3), (4, .int v4), (5, .int v5_1), (6, .int v6)]) [1, 2, 3, 4, 5, 0, 6] rfl ?_
    exact t_X12_decide_261 hS hrec_188 k0 ((hS.f k0 40 100 rfl).2) h
  · rw [if_neg c] at h
    refine x_sipush 8192 dX12_decide_254 (by decide) ?_
    refine x_goto 261 dX12_decide_257 (by decide) ?_
    refine x_lv (lv' := [(0, .ref v0), (1, .int v1), (2, .int v2), (3, .int v3), (4, .int v4), (5, .int v5_1), (6, .int v6)]) [1, 2, 3, 4, 5, 0, 6] rfl ?_
    exact t_X12_decide_261 hS hrec_188 k0 ((hS.f k0 40 100 rfl).2) h

def f_X12_decide_404 (F P : Nat) (S : xSt) (rec_347 : Nat → Int32 → Int32 → Int32 → Int32 → xDt → Option (Int32 × xDt)) (rec_358 : Nat → Int32 → Int32 → Int32 → Int32 → Int32 → xDt → Option (Int32 × xDt)) (v0 : Nat) (v1 : Int32) (v4 : Int32) (v5 : Int32) (v7 : Int32) (s0 : Int32) (D : xDt) : Option (Int32 × xDt) :=
  xlet (v7 + 1) fun v7_1 => rec_358 v0 v1 v4 v5 s0 v7_1 D
set_option maxHeartbeats 4000000 in
theorem t_X12_decide_404 {F P : Nat} {S : xSt} (hS : xWF S) {rec_347 : Nat → Int32 → Int32 → Int32 → Int32 → xDt → Option (Int32 × xDt)} (hrec_347 : ∀ {v0 : Nat} {v1 : Int32} {v4 : Int32} {v5 : Int32} {v6 : Int32} {D : xDt} {r : Int32 × xDt}, xK S v0 12 → rec_347 v0 v1 v4 v5 v6 D = some r → yEx md_X12_decide (P + 3) 347 [(0, .ref v0), (1, .int v1), (4, .int v4), (5, .int v5), (6, .int v6)] [] S D (xQi S r)) {rec_358 : Nat → Int32 → Int32 → Int32 → Int32 → Int32 → xDt → Option (Int32 × xDt)} (hrec_358 : ∀ {v0 : Nat} {v1 : Int32} {v4 : Int32} {v5 : Int32} {v6 : Int32} {v7 : Int32} {D : xDt} {r : Int32 × xDt}, xK S v0 12 → rec_358 v0 v1 v4 v5 v6 v7 D = some r → yEx md_X12_decide (P + 3) 358 [(0, .ref v0), (1, .int v1), (4, .int v4), (5, .int v5), (6, .int v6), (7, .int v7)] [] S D (xQi S r)) {v0 : Nat} {v1 : Int32} {v4 : Int32} {v5 : Int32} {v7 : Int32} {s0 : Int32} {D : xDt} {r : Int32 × xDt} (k0 : xK S v0 12) (h : f_X12_decide_404 F P S rec_347 rec_358 v0 v1 v4 v5 v7 s0 D = some r) : yEx md_X12_decide (P + 3) 404 [(0, .ref v0), (1, .int v1), (4, .int v4), (5, .int v5), (7, .int v7)] [.int s0] S D (xQi S r) := by
  unfold f_X12_decide_404 at h
  refine y_istore s0 rfl [(6, .int s0), (0, .ref v0), (1, .int v1), (4, .int v4), (5, .int v5), (7, .int v7)] dX12_decide_404 (by show _ < 10; decide) rfl ?_
  refine xlet_e h (fun v7_1 ev7_1 h => ?_)
  refine y_iinc v7_1 ev7_1 (by decide) [(7, .int v7_1), (6, .int s0), (0, .ref v0), (1, .int v1), (4, .int v4), (5, .int v5)] dX12_decide_406 5 rfl (by show _ < 10; decide) rfl ?_
  refine x_goto 358 dX12_decide_409 (by decide) ?_
  refine x_lv (lv' := [(0, .ref v0), (1, .int v1), (4, .int v4), (5, .int v5), (6, .int s0), (7, .int v7_1)]) [2, 3, 4, 5, 1, 0] rfl ?_
  exact hrec_358 k0 h

def f_X12_decide_399 (F P : Nat) (S : xSt) (rec_347 : Nat → Int32 → Int32 → Int32 → Int32 → xDt → Option (Int32 × xDt)) (rec_358 : Nat → Int32 → Int32 → Int32 → Int32 → Int32 → xDt → Option (Int32 × xDt)) (v0 : Nat) (v1 : Int32) (v4 : Int32) (v5 : Int32) (v7 : Int32) (D : xDt) : Option (Int32 × xDt) :=
  f_X12_decide_404 F P S rec_347 rec_358 v0 v1 v4 v5 v7 1 D
set_option maxHeartbeats 4000000 in
theorem t_X12_decide_399 {F P : Nat} {S : xSt} (hS : xWF S) {rec_347 : Nat → Int32 → Int32 → Int32 → Int32 → xDt → Option (Int32 × xDt)} (hrec_347 : ∀ {v0 : Nat} {v1 : Int32} {v4 : Int32} {v5 : Int32} {v6 : Int32} {D : xDt} {r : Int32 × xDt}, xK S v0 12 → rec_347 v0 v1 v4 v5 v6 D = some r → yEx md_X12_decide (P + 3) 347 [(0, .ref v0), (1, .int v1), (4, .int v4), (5, .int v5), (6, .int v6)] [] S D (xQi S r)) {rec_358 : Nat → Int32 → Int32 → Int32 → Int32 → Int32 → xDt → Option (Int32 × xDt)} (hrec_358 : ∀ {v0 : Nat} {v1 : Int32} {v4 : Int32} {v5 : Int32} {v6 : Int32} {v7 : Int32} {D : xDt} {r : Int32 × xDt}, xK S v0 12 → rec_358 v0 v1 v4 v5 v6 v7 D = some r → yEx md_X12_decide (P + 3) 358 [(0, .ref v0), (1, .int v1), (4, .int v4), (5, .int v5), (6, .int v6), (7, .int v7)] [] S D (xQi S r)) {v0 : Nat} {v1 : Int32} {v4 : Int32} {v5 : Int32} {v7 : Int32} {D : xDt} {r : Int32 × xDt} (k0 : xK S v0 12) (h : f_X12_decide_399 F P S rec_347 rec_358 v0 v1 v4 v5 v7 D = some r) : yEx md_X12_decide (P + 3) 399 [(0, .ref v0), (1, .int v1), (4, .int v4), (5, .int v5), (7, .int v7)] [] S D (xQi S r) := by
  unfold f_X12_decide_399 at h
  refine x_iconst 1 dX12_decide_399 (by decide) ?_
  refine x_goto 404 dX12_decide_400 (by decide) ?_
  exact t_X12_decide_404 hS hrec_347 hrec_358 k0 h

def f_X12_decide_394 (F P : Nat) (S : xSt) (rec_347 : Nat → Int32 → Int32 → Int32 → Int32 → xDt → Option (Int32 × xDt)) (rec_358 : Nat → Int32 → Int32 → Int32 → Int32 → Int32 → xDt → Option (Int32 × xDt)) (v0 : Nat) (v1 : Int32) (v4 : Int32) (v5 : Int32) (v6 : Int32) (v7 : Int32) (D : xDt) : Option (Int32 × xDt) :=
  if v6 = 0 then (f_X12_decide_404 F P S rec_347 rec_358 v0 v1 v4 v5 v7 0 D) else (f_X12_decide_399 F P S rec_347 rec_358 v0 v1 v4 v5 v7 D)
set_option maxHeartbeats 4000000 in
theorem t_X12_decide_394 {F P : Nat} {S : xSt} (hS : xWF S) {rec_347 : Nat → Int32 → Int32 → Int32 → Int32 → xDt → Option (Int32 × xDt)} (hrec_347 : ∀ {v0 : Nat} {v1 : Int32} {v4 : Int32} {v5 : Int32} {v6 : Int32} {D : xDt} {r : Int32 × xDt}, xK S v0 12 → rec_347 v0 v1 v4 v5 v6 D = some r → yEx md_X12_decide (P + 3) 347 [(0, .ref v0), (1, .int v1), (4, .int v4), (5, .int v5), (6, .int v6)] [] S D (xQi S r)) {rec_358 : Nat → Int32 → Int32 → Int32 → Int32 → Int32 → xDt → Option (Int32 × xDt)} (hrec_358 : ∀ {v0 : Nat} {v1 : Int32} {v4 : Int32} {v5 : Int32} {v6 : Int32} {v7 : Int32} {D : xDt} {r : Int32 × xDt}, xK S v0 12 → rec_358 v0 v1 v4 v5 v6 v7 D = some r → yEx md_X12_decide (P + 3) 358 [(0, .ref v0), (1, .int v1), (4, .int v4), (5, .int v5), (6, .int v6), (7, .int v7)] [] S D (xQi S r)) {v0 : Nat} {v1 : Int32} {v4 : Int32} {v5 : Int32} {v6 : Int32} {v7 : Int32} {D : xDt} {r : Int32 × xDt} (k0 : xK S v0 12) (h : f_X12_decide_394 F P S rec_347 rec_358 v0 v1 v4 v5 v6 v7 D = some r) : yEx md_X12_decide (P + 3) 394 [(0, .ref v0), (1, .int v1), (4, .int v4), (5, .int v5), (6, .int v6), (7, .int v7)] [] S D (xQi S r) := by
  unfold f_X12_decide_394 at h
  refine x_iload dX12_decide_394 4 rfl ?_
  refine x_if_eq 403 dX12_decide_396 (by decide) (fun c => ?_) (fun c => ?_)
  · rw [if_pos c] at h
    refine x_iconst 0 dX12_decide_403 (by decide) ?_
    refine x_lv (lv' := [(0, .ref v0), (1, .int v1), (4, .int v4), (5, .int v5), (7, .int v7)]) [0, 1, 2, 3, 5] rfl ?_
    exact t_X12_decide_404 hS hrec_347 hrec_358 k0 h
  · rw [if_neg c] at h
    refine x_lv (lv' := [(0, .ref v0), (1, .int v1), (4, .int v4), (5, .int v5), (7, .int v7)]) [0, 1, 2, 3, 5] rfl ?_
    exact t_X12_decide_399 hS hrec_347 hrec_358 k0 h

def f_X12_decide_358s (F P : Nat) (S : xSt) (rec_347 : Nat → Int32 → Int32 → Int32 → Int32 → xDt → Option (Int32 × xDt)) (rec_358 : Nat → Int32 → Int32 → Int32 → Int32 → Int32 → xDt → Option (Int32 × xDt)) (v0 : Nat) (v1 : Int32) (v4 : Int32) (v5 : Int32) (v6 : Int32) (v7 : Int32) (D : xDt) : Option (Int32 × xDt) :=
  if (D.1 v0 38) ≤ v7 then (rec_347 v0 v1 v4 v5 v6 D) else (xgrd (xin v7 (xl S (xr S v0 37))) (xgrd (xin (D.1 (xr S v0 37) (v7).toNatClampNeg) (xl S (xr S v0 8))) (if (D.1 (xr S v0 8) (D.1 (xr S v0 37) (v7).toNatClampNeg).toNatClampNeg) = 1 then (f_X12_decide_394 F P S rec_347 rec_358 v0 v1 v4 v5 v6 v7 D) else ((f_X12_sift F P S v0 v7 v4 D).bind fun q3 => if q3.1 = 0 then (f_X12_decide_394 F P S rec_347 rec_358 v0 v1 v4 v5 v6 v7 q3.2) else (f_X12_decide_399 F P S rec_347 rec_358 v0 v1 v4 v5 v7 q3.2)))))
def f_X12_decide_358 (F P : Nat) (S : xSt) (rec_347 : Nat → Int32 → Int32 → Int32 → Int32 → xDt → Option (Int32 × xDt)) : Nat → Nat → Int32 → Int32 → Int32 → Int32 → Int32 → xDt → Option (Int32 × xDt)
  | 0 => fun _ _ _ _ _ _ _ => none
  | n + 1 => f_X12_decide_358s F P S rec_347 (f_X12_decide_358 F P S rec_347 n)
set_option maxHeartbeats 4000000 in
theorem t_X12_decide_358s {F P : Nat} {S : xSt} (hS : xWF S) {rec_347 : Nat → Int32 → Int32 → Int32 → Int32 → xDt → Option (Int32 × xDt)} (hrec_347 : ∀ {v0 : Nat} {v1 : Int32} {v4 : Int32} {v5 : Int32} {v6 : Int32} {D : xDt} {r : Int32 × xDt}, xK S v0 12 → rec_347 v0 v1 v4 v5 v6 D = some r → yEx md_X12_decide (P + 3) 347 [(0, .ref v0), (1, .int v1), (4, .int v4), (5, .int v5), (6, .int v6)] [] S D (xQi S r)) {rec_358 : Nat → Int32 → Int32 → Int32 → Int32 → Int32 → xDt → Option (Int32 × xDt)} (hrec_358 : ∀ {v0 : Nat} {v1 : Int32} {v4 : Int32} {v5 : Int32} {v6 : Int32} {v7 : Int32} {D : xDt} {r : Int32 × xDt}, xK S v0 12 → rec_358 v0 v1 v4 v5 v6 v7 D = some r → yEx md_X12_decide (P + 3) 358 [(0, .ref v0), (1, .int v1), (4, .int v4), (5, .int v5), (6, .int v6), (7, .int v7)] [] S D (xQi S r)) {v0 : Nat} {v1 : Int32} {v4 : Int32} {v5 : Int32} {v6 : Int32} {v7 : Int32} {D : xDt} {r : Int32 × xDt} (k0 : xK S v0 12) (h : f_X12_decide_358s F P S rec_347 rec_358 v0 v1 v4 v5 v6 v7 D = some r) : yEx md_X12_decide (P + 3) 358 [(0, .ref v0), (1, .int v1), (4, .int v4), (5, .int v5), (6, .int v6), (7, .int v7)] [] S D (xQi S r) := by
  unfold f_X12_decide_358s at h
  refine x_iload dX12_decide_358 5 rfl ?_
  refine x_aload_n dX12_decide_360 0 rfl ?_
  refine y_geti fl_RX12_310 dX12_decide_361 rfl k0 ?_
  refine x_icmp_ge 412 dX12_decide_364 (by decide) (fun c => ?_) (fun c => ?_)
  · rw [if_pos c] at h
    refine x_goto 347 dX12_decide_412 (by decide) ?_
    refine x_lv (lv' := [(0, .ref v0), (1, .int v1), (4, .int v4), (5, .int v5), (6, .int v6)]) [0, 1, 2, 3, 4] rfl ?_
    exact hrec_347 k0 h
  · rw [if_neg c] at h
    refine x_aload_n dX12_decide_367 0 rfl ?_
    refine y_getr (kd := 100) hS fl_RX12_72 dX12_decide_368 rfl k0 ?_
    refine x_aload_n dX12_decide_371 0 rfl ?_
    refine y_getr (kd := 100) hS fl_RX12_134 dX12_decide_372 rfl k0 ?_
    refine x_iload dX12_decide_375 5 rfl ?_
    refine xgrd_e h (fun g1 h => ?_)
    refine y_iald dX12_decide_377 ((hS.f k0 37 100 rfl).2) g1 ?_
    refine xgrd_e h (fun g2 h => ?_)
    refine y_iald dX12_decide_378 ((hS.f k0 8 100 rfl).2) g2 ?_
    refine x_iconst 1 dX12_decide_379 (by decide) ?_
    refine x_icmp_eq 394 dX12_decide_380 (by decide) (fun c => ?_) (fun c => ?_)
    · rw [if_pos c] at h
      exact t_X12_decide_394 hS hrec_347 hrec_358 k0 h
    · rw [if_neg c] at h
      refine x_aload_n dX12_decide_383 0 rfl ?_
      refine x_iload dX12_decide_384 5 rfl ?_
      refine x_iload dX12_decide_386 2 rfl ?_
      refine xbnd_e h (fun q3 e3 h => ?_)
      refine y_callVi (As := [.int v7, .int v4]) (q := q3) cv_RX12_335 dX12_decide_388 k0 rfl (Nat.le_of_ble_eq_true rfl) (by omega) (S_X12_sift hS k0 e3) ?_
      refine x_if_ne 399 dX12_decide_391 (by decide) (fun c => ?_) (fun c => ?_)
      · rw [if_neg c] at h
        refine x_lv (lv' := [(0, .ref v0), (1, .int v1), (4, .int v4), (5, .int v5), (7, .int v7)]) [0, 1, 2, 3, 5] rfl ?_
        exact t_X12_decide_399 hS hrec_347 hrec_358 k0 h
      · rw [if_pos c] at h
        exact t_X12_decide_394 hS hrec_347 hrec_358 k0 h
theorem t_X12_decide_358 {F P : Nat} {S : xSt} (hS : xWF S) {rec_347 : Nat → Int32 → Int32 → Int32 → Int32 → xDt → Option (Int32 × xDt)} (hrec_347 : ∀ {v0 : Nat} {v1 : Int32} {v4 : Int32} {v5 : Int32} {v6 : Int32} {D : xDt} {r : Int32 × xDt}, xK S v0 12 → rec_347 v0 v1 v4 v5 v6 D = some r → yEx md_X12_decide (P + 3) 347 [(0, .ref v0), (1, .int v1), (4, .int v4), (5, .int v5), (6, .int v6)] [] S D (xQi S r)) : ∀ (n : Nat) {v0 : Nat} {v1 : Int32} {v4 : Int32} {v5 : Int32} {v6 : Int32} {v7 : Int32} {D : xDt} {r : Int32 × xDt}, xK S v0 12 → f_X12_decide_358 F P S rec_347 n v0 v1 v4 v5 v6 v7 D = some r → yEx md_X12_decide (P + 3) 358 [(0, .ref v0), (1, .int v1), (4, .int v4), (5, .int v5), (6, .int v6), (7, .int v7)] [] S D (xQi S r) := by
  intro n
  induction n with
  | zero => intros; rename_i h; cases h
  | succ n ih =>
    intro v0 v1 v4 v5 v6 v7 D r k0 h
    exact t_X12_decide_358s hS hrec_347 (fun k0 h => ih k0 h) k0 h

def f_X12_decide_482 (F P : Nat) (S : xSt) (rec_424 : Nat → Int32 → Int32 → Int32 → Int32 → Int32 → Int32 → xDt → Option (Int32 × xDt)) (v0 : Nat) (v1 : Int32) (v4 : Int32) (v5 : Int32) (v7 : Int32) (v9 : Int32) (s0 : Int32) (s1 : Int32) (D : xDt) : Option (Int32 × xDt) :=
  xlet (s1 + s0) fun v8_1 => xlet (v9 + 1) fun v9_2 => rec_424 v0 v1 v4 v5 v7 v8_1 v9_2 D
set_option maxHeartbeats 4000000 in
theorem t_X12_decide_482 {F P : Nat} {S : xSt} (hS : xWF S) {rec_424 : Nat → Int32 → Int32 → Int32 → Int32 → Int32 → Int32 → xDt → Option (Int32 × xDt)} (hrec_424 : ∀ {v0 : Nat} {v1 : Int32} {v4 : Int32} {v5 : Int32} {v7 : Int32} {v8 : Int32} {v9 : Int32} {D : xDt} {r : Int32 × xDt}, xK S v0 12 → rec_424 v0 v1 v4 v5 v7 v8 v9 D = some r → yEx md_X12_decide (P + 3) 424 [(0, .ref v0), (1, .int v1), (4, .int v4), (5, .int v5), (7, .int v7), (8, .int v8), (9, .int v9)] [] S D (xQi S r)) {v0 : Nat} {v1 : Int32} {v4 : Int32} {v5 : Int32} {v7 : Int32} {v9 : Int32} {s0 : Int32} {s1 : Int32} {D : xDt} {r : Int32 × xDt} (k0 : xK S v0 12) (h : f_X12_decide_482 F P S rec_424 v0 v1 v4 v5 v7 v9 s0 s1 D = some r) : yEx md_X12_decide (P + 3) 482 [(0, .ref v0), (1, .int v1), (4, .int v4), (5, .int v5), (7, .int v7), (9, .int v9)] [.int s0, .int s1] S D (xQi S r) := by
  unfold f_X12_decide_482 at h
  refine x_iadd dX12_decide_482 ?_
  refine xlet_e h (fun v8_1 ev8_1 h => ?_)
  refine y_istore v8_1 ev8_1 [(8, .int v8_1), (0, .ref v0), (1, .int v1), (4, .int v4), (5, .int v5), (7, .int v7), (9, .int v9)] dX12_decide_483 (by show _ < 10; decide) rfl ?_
  refine xlet_e h (fun v9_2 ev9_2 h => ?_)
  refine y_iinc v9_2 ev9_2 (by decide) [(9, .int v9_2), (8, .int v8_1), (0, .ref v0), (1, .int v1), (4, .int v4), (5, .int v5), (7, .int v7)] dX12_decide_485 6 rfl (by show _ < 10; decide) rfl ?_
  refine x_goto 424 dX12_decide_488 (by decide) ?_
  refine x_lv (lv' := [(0, .ref v0), (1, .int v1), (4, .int v4), (5, .int v5), (7, .int v7), (8, .int v8_1), (9, .int v9_2)]) [2, 3, 4, 5, 6, 1, 0] rfl ?_
  exact hrec_424 k0 h

def f_X12_decide_481 (F P : Nat) (S : xSt) (rec_424 : Nat → Int32 → Int32 → Int32 → Int32 → Int32 → Int32 → xDt → Option (Int32 × xDt)) (v0 : Nat) (v1 : Int32) (v4 : Int32) (v5 : Int32) (v7 : Int32) (v9 : Int32) (s0 : Int32) (D : xDt) : Option (Int32 × xDt) :=
  f_X12_decide_482 F P S rec_424 v0 v1 v4 v5 v7 v9 0 s0 D
set_option maxHeartbeats 4000000 in
theorem t_X12_decide_481 {F P : Nat} {S : xSt} (hS : xWF S) {rec_424 : Nat → Int32 → Int32 → Int32 → Int32 → Int32 → Int32 → xDt → Option (Int32 × xDt)} (hrec_424 : ∀ {v0 : Nat} {v1 : Int32} {v4 : Int32} {v5 : Int32} {v7 : Int32} {v8 : Int32} {v9 : Int32} {D : xDt} {r : Int32 × xDt}, xK S v0 12 → rec_424 v0 v1 v4 v5 v7 v8 v9 D = some r → yEx md_X12_decide (P + 3) 424 [(0, .ref v0), (1, .int v1), (4, .int v4), (5, .int v5), (7, .int v7), (8, .int v8), (9, .int v9)] [] S D (xQi S r)) {v0 : Nat} {v1 : Int32} {v4 : Int32} {v5 : Int32} {v7 : Int32} {v9 : Int32} {s0 : Int32} {D : xDt} {r : Int32 × xDt} (k0 : xK S v0 12) (h : f_X12_decide_481 F P S rec_424 v0 v1 v4 v5 v7 v9 s0 D = some r) : yEx md_X12_decide (P + 3) 481 [(0, .ref v0), (1, .int v1), (4, .int v4), (5, .int v5), (7, .int v7), (9, .int v9)] [.int s0] S D (xQi S r) := by
  unfold f_X12_decide_481 at h
  refine x_iconst 0 dX12_decide_481 (by decide) ?_
  exact t_X12_decide_482 hS hrec_424 k0 h

def f_X12_decide_448 (F P : Nat) (S : xSt) (rec_424 : Nat → Int32 → Int32 → Int32 → Int32 → Int32 → Int32 → xDt → Option (Int32 × xDt)) (v0 : Nat) (v1 : Int32) (v4 : Int32) (v5 : Int32) (v8 : Int32) (v9 : Int32) (s0 : Int32) (s1 : Int32) (D : xDt) : Option (Int32 × xDt) :=
  xlet (s1 + s0) fun v7_1 => xgrd (xin v9 (xl S (xr S v0 39))) (if (D.1 (xr S v0 39) (v9).toNatClampNeg) = 0 then (f_X12_decide_481 F P S rec_424 v0 v1 v4 v5 v7_1 v9 v8 D) else (xgrd (xin v9 (xl S (xr S v0 40))) (if (jishr (D.1 (xr S v0 40) (v9).toNatClampNeg) 13) = 1 then (f_X12_decide_482 F P S rec_424 v0 v1 v4 v5 v7_1 v9 1 v8 D) else (f_X12_decide_481 F P S rec_424 v0 v1 v4 v5 v7_1 v9 v8 D))))
set_option maxHeartbeats 4000000 in
theorem t_X12_decide_448 {F P : Nat} {S : xSt} (hS : xWF S) {rec_424 : Nat → Int32 → Int32 → Int32 → Int32 → Int32 → Int32 → xDt → Option (Int32 × xDt)} (hrec_424 : ∀ {v0 : Nat} {v1 : Int32} {v4 : Int32} {v5 : Int32} {v7 : Int32} {v8 : Int32} {v9 : Int32} {D : xDt} {r : Int32 × xDt}, xK S v0 12 → rec_424 v0 v1 v4 v5 v7 v8 v9 D = some r → yEx md_X12_decide (P + 3) 424 [(0, .ref v0), (1, .int v1), (4, .int v4), (5, .int v5), (7, .int v7), (8, .int v8), (9, .int v9)] [] S D (xQi S r)) {v0 : Nat} {v1 : Int32} {v4 : Int32} {v5 : Int32} {v8 : Int32} {v9 : Int32} {s0 : Int32} {s1 : Int32} {D : xDt} {r : Int32 × xDt} (k0 : xK S v0 12) (h : f_X12_decide_448 F P S rec_424 v0 v1 v4 v5 v8 v9 s0 s1 D = some r) : yEx md_X12_decide (P + 3) 448 [(0, .ref v0), (1, .int v1), (4, .int v4), (5, .int v5), (8, .int v8), (9, .int v9)] [.int s0, .int s1] S D (xQi S r) := by
  unfold f_X12_decide_448 at h
  refine x_iadd dX12_decide_448 ?_
  refine xlet_e h (fun v7_1 ev7_1 h => ?_)
  refine y_istore v7_1 ev7_1 [(7, .int v7_1), (0, .ref v0), (1, .int v1), (4, .int v4), (5, .int v5), (8, .int v8), (9, .int v9)] dX12_decide_449 (by show _ < 10; decide) rfl ?_
  refine x_iload dX12_decide_451 5 rfl ?_
  refine x_aload_n dX12_decide_453 1 rfl ?_
  refine y_getr (kd := 104) hS fl_RX12_137 dX12_decide_454 rfl k0 ?_
  refine x_iload dX12_decide_457 6 rfl ?_
  refine xgrd_e h (fun g2 h => ?_)
  refine y_zald dX12_decide_459 ((hS.f k0 39 104 rfl).2) g2 ?_
  refine x_if_eq 481 dX12_decide_460 (by decide) (fun c => ?_) (fun c => ?_)
  · rw [if_pos c] at h
    refine x_lv (lv' := [(0, .ref v0), (1, .int v1), (4, .int v4), (5, .int v5), (7, .int v7_1), (9, .int v9)]) [1, 2, 3, 4, 0, 6] rfl ?_
    exact t_X12_decide_481 hS hrec_424 k0 h
  · rw [if_neg c] at h
    refine x_aload_n dX12_decide_463 1 rfl ?_
    refine y_getr (kd := 100) hS fl_RX12_141 dX12_decide_464 rfl k0 ?_
    refine x_iload dX12_decide_467 6 rfl ?_
    refine xgrd_e h (fun g3 h => ?_)
    refine y_iald dX12_decide_469 ((hS.f k0 40 100 rfl).2) g3 ?_
    refine x_bipush 13 dX12_decide_470 (by decide) ?_
    refine x_ishr dX12_decide_472 ?_
    refine x_iconst 1 dX12_decide_473 (by decide) ?_
    refine x_icmp_ne 481 dX12_decide_474 (by decide) (fun c => ?_) (fun c => ?_)
    · rw [if_neg c] at h
      refine x_lv (lv' := [(0, .ref v0), (1, .int v1), (4, .int v4), (5, .int v5), (7, .int v7_1), (9, .int v9)]) [1, 2, 3, 4, 0, 6] rfl ?_
      exact t_X12_decide_481 hS hrec_424 k0 h
    · rw [if_pos c] at h
      refine x_iconst 1 dX12_decide_477 (by decide) ?_
      refine x_goto 482 dX12_decide_478 (by decide) ?_
      refine x_lv (lv' := [(0, .ref v0), (1, .int v1), (4, .int v4), (5, .int v5), (7, .int v7_1), (9, .int v9)]) [1, 2, 3, 4, 0, 6] rfl ?_
      exact t_X12_decide_482 hS hrec_424 k0 h

def f_X12_decide_424s (F P : Nat) (S : xSt) (rec_424 : Nat → Int32 → Int32 → Int32 → Int32 → Int32 → Int32 → xDt → Option (Int32 × xDt)) (v0 : Nat) (v1 : Int32) (v4 : Int32) (v5 : Int32) (v7 : Int32) (v8 : Int32) (v9 : Int32) (D : xDt) : Option (Int32 × xDt) :=
  if v4 ≤ v9 then (if v1 = 0 then (if v8 ≤ 0 then (some (0, D)) else (some (1, D))) else (if v1 = 1 then (if v8 = v7 then (some (1, D)) else (some (0, D))) else (if v1 = 2 then (some (D.1 v0 38, D)) else (if v1 = 3 then (some (v5, D)) else (if v1 = 4 then (some (v7, D)) else (some (v8, D))))))) else (xgrd (xin v9 (xl S (xr S v0 39))) (if (D.1 (xr S v0 39) (v9).toNatClampNeg) = 0 then (f_X12_decide_448 F P S rec_424 v0 v1 v4 v5 v8 v9 0 v7 D) else (f_X12_decide_448 F P S rec_424 v0 v1 v4 v5 v8 v9 1 v7 D)))
def f_X12_decide_424 (F P : Nat) (S : xSt) : Nat → Nat → Int32 → Int32 → Int32 → Int32 → Int32 → Int32 → xDt → Option (Int32 × xDt)
  | 0 => fun _ _ _ _ _ _ _ _ => none
  | n + 1 => f_X12_decide_424s F P S (f_X12_decide_424 F P S n)
set_option maxHeartbeats 4000000 in
theorem t_X12_decide_424s {F P : Nat} {S : xSt} (hS : xWF S) {rec_424 : Nat → Int32 → Int32 → Int32 → Int32 → Int32 → Int32 → xDt → Option (Int32 × xDt)} (hrec_424 : ∀ {v0 : Nat} {v1 : Int32} {v4 : Int32} {v5 : Int32} {v7 : Int32} {v8 : Int32} {v9 : Int32} {D : xDt} {r : Int32 × xDt}, xK S v0 12 → rec_424 v0 v1 v4 v5 v7 v8 v9 D = some r → yEx md_X12_decide (P + 3) 424 [(0, .ref v0), (1, .int v1), (4, .int v4), (5, .int v5), (7, .int v7), (8, .int v8), (9, .int v9)] [] S D (xQi S r)) {v0 : Nat} {v1 : Int32} {v4 : Int32} {v5 : Int32} {v7 : Int32} {v8 : Int32} {v9 : Int32} {D : xDt} {r : Int32 × xDt} (k0 : xK S v0 12) (h : f_X12_decide_424s F P S rec_424 v0 v1 v4 v5 v7 v8 v9 D = some r) : yEx md_X12_decide (P + 3) 424 [(0, .ref v0), (1, .int v1), (4, .int v4), (5, .int v5), (7, .int v7), (8, .int v8), (9, .int v9)] [] S D (xQi S r) := by
  unfold f_X12_decide_424s at h
  refine x_iload dX12_decide_424 6 rfl ?_
  refine x_iload dX12_decide_426 2 rfl ?_
  refine x_icmp_ge 491 dX12_decide_428 (by decide) (fun c => ?_) (fun c => ?_)
  · rw [if_pos c] at h
    refine x_iload_n dX12_decide_491 1 rfl ?_
    by_cases c0 : v1 = 0
    · rw [if_pos c0] at h
      refine x_tsIn 0 528 c0 dX12_decide_492 (by decide) (by decide) rfl (by decide) ?_
      refine x_iload dX12_decide_528 5 rfl ?_
      refine x_if_le 537 dX12_decide_530 (by decide) (fun c => ?_) (fun c => ?_)
      · rw [if_pos c] at h
        refine x_iconst 0 dX12_decide_537 (by decide) ?_
        obtain rfl := Option.some.inj h
        exact y_iret rfl dX12_decide_538
      · rw [if_neg c] at h
        refine x_iconst 1 dX12_decide_533 (by decide) ?_
        refine x_goto 538 dX12_decide_534 (by decide) ?_
        obtain rfl := Option.some.inj h
        exact y_iret rfl dX12_decide_538
    · rw [if_neg c0] at h
      by_cases c1 : v1 = 1
      · rw [if_pos c1] at h
        refine x_tsIn 1 539 c1 dX12_decide_492 (by decide) (by decide) rfl (by decide) ?_
        refine x_iload dX12_decide_539 5 rfl ?_
        refine x_iload dX12_decide_541 4 rfl ?_
        refine x_icmp_ne 550 dX12_decide_543 (by decide) (fun c => ?_) (fun c => ?_)
        · rw [if_neg c] at h
          refine x_iconst 0 dX12_decide_550 (by decide) ?_
          obtain rfl := Option.some.inj h
          exact y_iret rfl dX12_decide_551
        · rw [if_pos c] at h
          refine x_iconst 1 dX12_decide_546 (by decide) ?_
          refine x_goto 551 dX12_decide_547 (by decide) ?_
          obtain rfl := Option.some.inj h
          exact y_iret rfl dX12_decide_551
      · rw [if_neg c1] at h
        by_cases c2 : v1 = 2
        · rw [if_pos c2] at h
          refine x_tsIn 2 552 c2 dX12_decide_492 (by decide) (by decide) rfl (by decide) ?_
          refine x_aload_n dX12_decide_552 0 rfl ?_
          refine y_geti fl_RX12_310 dX12_decide_553 rfl k0 ?_
          obtain rfl := Option.some.inj h
          exact y_iret rfl dX12_decide_556
        · rw [if_neg c2] at h
          by_cases c3 : v1 = 3
          · rw [if_pos c3] at h
            refine x_tsIn 3 557 c3 dX12_decide_492 (by decide) (by decide) rfl (by decide) ?_
            refine x_iload dX12_decide_557 3 rfl ?_
            obtain rfl := Option.some.inj h
            exact y_iret rfl dX12_decide_559
          · rw [if_neg c3] at h
            by_cases c4 : v1 = 4
            · rw [if_pos c4] at h
              refine x_tsIn 4 560 c4 dX12_decide_492 (by decide) (by decide) rfl (by decide) ?_
              refine x_iload dX12_decide_560 4 rfl ?_
              obtain rfl := Option.some.inj h
              exact y_iret rfl dX12_decide_562
            · rw [if_neg c4] at h
              refine x_tsOut 563 dX12_decide_492 (by have := lv_neT c0 (a := 0) (by decide); have := lv_neT c1 (a := 1) (by decide); have := lv_neT c2 (a := 2) (by decide); have := lv_neT c3 (a := 3) (by decide); have := lv_neT c4 (a := 4) (by decide); omega) (by decide) ?_
              refine x_iload dX12_decide_563 5 rfl ?_
              obtain rfl := Option.some.inj h
              exact y_iret rfl dX12_decide_565
  · rw [if_neg c] at h
    refine x_iload dX12_decide_431 4 rfl ?_
    refine x_aload_n dX12_decide_433 0 rfl ?_
    refine y_getr (kd := 104) hS fl_RX12_137 dX12_decide_434 rfl k0 ?_
    refine x_iload dX12_decide_437 6 rfl ?_
    refine xgrd_e h (fun g1 h => ?_)
    refine y_zald dX12_decide_439 ((hS.f k0 39 104 rfl).2) g1 ?_
    refine x_if_eq 447 dX12_decide_440 (by decide) (fun c => ?_) (fun c => ?_)
    · rw [if_pos c] at h
      refine x_iconst 0 dX12_decide_447 (by decide) ?_
      refine x_lv (lv' := [(0, .ref v0), (1, .int v1), (4, .int v4), (5, .int v5), (8, .int v8), (9, .int v9)]) [0, 1, 2, 3, 5, 6] rfl ?_
      exact t_X12_decide_448 hS hrec_424 k0 h
    · rw [if_neg c] at h
      refine x_iconst 1 dX12_decide_443 (by decide) ?_
      refine x_goto 448 dX12_decide_444 (by decide) ?_
      refine x_lv (lv' := [(0, .ref v0), (1, .int v1), (4, .int v4), (5, .int v5), (8, .int v8), (9, .int v9)]) [0, 1, 2, 3, 5, 6] rfl ?_
      exact t_X12_decide_448 hS hrec_424 k0 h
theorem t_X12_decide_424 {F P : Nat} {S : xSt} (hS : xWF S) : ∀ (n : Nat) {v0 : Nat} {v1 : Int32} {v4 : Int32} {v5 : Int32} {v7 : Int32} {v8 : Int32} {v9 : Int32} {D : xDt} {r : Int32 × xDt}, xK S v0 12 → f_X12_decide_424 F P S n v0 v1 v4 v5 v7 v8 v9 D = some r → yEx md_X12_decide (P + 3) 424 [(0, .ref v0), (1, .int v1), (4, .int v4), (5, .int v5), (7, .int v7), (8, .int v8), (9, .int v9)] [] S D (xQi S r) := by
  intro n
  induction n with
  | zero => intros; rename_i h; cases h
  | succ n ih =>
    intro v0 v1 v4 v5 v7 v8 v9 D r k0 h
    exact t_X12_decide_424s hS (fun k0 h => ih k0 h) k0 h

def f_X12_decide_347s (F P : Nat) (S : xSt) (rec_347 : Nat → Int32 → Int32 → Int32 → Int32 → xDt → Option (Int32 × xDt)) (v0 : Nat) (v1 : Int32) (v4 : Int32) (v5 : Int32) (v6 : Int32) (D : xDt) : Option (Int32 × xDt) :=
  if v6 = 0 then (f_X12_decide_424 F P S F v0 v1 v4 v5 0 0 0 D) else (f_X12_decide_358 F P S rec_347 F v0 v1 v4 v5 0 0 D)
def f_X12_decide_347 (F P : Nat) (S : xSt) : Nat → Nat → Int32 → Int32 → Int32 → Int32 → xDt → Option (Int32 × xDt)
  | 0 => fun _ _ _ _ _ _ => none
  | n + 1 => f_X12_decide_347s F P S (f_X12_decide_347 F P S n)
set_option maxHeartbeats 4000000 in
theorem t_X12_decide_347s {F P : Nat} {S : xSt} (hS : xWF S) {rec_347 : Nat → Int32 → Int32 → Int32 → Int32 → xDt → Option (Int32 × xDt)} (hrec_347 : ∀ {v0 : Nat} {v1 : Int32} {v4 : Int32} {v5 : Int32} {v6 : Int32} {D : xDt} {r : Int32 × xDt}, xK S v0 12 → rec_347 v0 v1 v4 v5 v6 D = some r → yEx md_X12_decide (P + 3) 347 [(0, .ref v0), (1, .int v1), (4, .int v4), (5, .int v5), (6, .int v6)] [] S D (xQi S r)) {v0 : Nat} {v1 : Int32} {v4 : Int32} {v5 : Int32} {v6 : Int32} {D : xDt} {r : Int32 × xDt} (k0 : xK S v0 12) (h : f_X12_decide_347s F P S rec_347 v0 v1 v4 v5 v6 D = some r) : yEx md_X12_decide (P + 3) 347 [(0, .ref v0), (1, .int v1), (4, .int v4), (5, .int v5), (6, .int v6)] [] S D (xQi S r) := by
  unfold f_X12_decide_347s at h
  refine x_iload dX12_decide_347 4 rfl ?_
  refine x_if_eq 415 dX12_decide_349 (by decide) (fun c => ?_) (fun c => ?_)
  · rw [if_pos c] at h
    refine x_iconst 0 dX12_decide_415 (by decide) ?_
    refine y_istore 0 rfl [(7, .int 0), (0, .ref v0), (1, .int v1), (4, .int v4), (5, .int v5), (6, .int v6)] dX12_decide_416 (by show _ < 10; decide) rfl ?_
    refine x_iconst 0 dX12_decide_418 (by decide) ?_
    refine y_istore 0 rfl [(8, .int 0), (7, .int 0), (0, .ref v0), (1, .int v1), (4, .int v4), (5, .int v5), (6, .int v6)] dX12_decide_419 (by show _ < 10; decide) rfl ?_
    refine x_iconst 0 dX12_decide_421 (by decide) ?_
    refine y_istore 0 rfl [(9, .int 0), (8, .int 0), (7, .int 0), (0, .ref v0), (1, .int v1), (4, .int v4), (5, .int v5), (6, .int v6)] dX12_decide_422 (by show _ < 10; decide) rfl ?_
    refine x_lv (lv' := [(0, .ref v0), (1, .int v1), (4, .int v4), (5, .int v5), (7, .int 0), (8, .int 0), (9, .int 0)]) [3, 4, 5, 6, 2, 1, 0] rfl ?_
    exact t_X12_decide_424 hS F k0 h
  · rw [if_neg c] at h
    refine x_iconst 0 dX12_decide_352 (by decide) ?_
    refine y_istore 0 rfl [(6, .int 0), (0, .ref v0), (1, .int v1), (4, .int v4), (5, .int v5)] dX12_decide_353 (by show _ < 10; decide) rfl ?_
    refine x_iconst 0 dX12_decide_355 (by decide) ?_
    refine y_istore 0 rfl [(7, .int 0), (6, .int 0), (0, .ref v0), (1, .int v1), (4, .int v4), (5, .int v5)] dX12_decide_356 (by show _ < 10; decide) rfl ?_
    refine x_lv (lv' := [(0, .ref v0), (1, .int v1), (4, .int v4), (5, .int v5), (6, .int 0), (7, .int 0)]) [2, 3, 4, 5, 1, 0] rfl ?_
    exact t_X12_decide_358 hS hrec_347 F k0 h
theorem t_X12_decide_347 {F P : Nat} {S : xSt} (hS : xWF S) : ∀ (n : Nat) {v0 : Nat} {v1 : Int32} {v4 : Int32} {v5 : Int32} {v6 : Int32} {D : xDt} {r : Int32 × xDt}, xK S v0 12 → f_X12_decide_347 F P S n v0 v1 v4 v5 v6 D = some r → yEx md_X12_decide (P + 3) 347 [(0, .ref v0), (1, .int v1), (4, .int v4), (5, .int v5), (6, .int v6)] [] S D (xQi S r) := by
  intro n
  induction n with
  | zero => intros; rename_i h; cases h
  | succ n ih =>
    intro v0 v1 v4 v5 v6 D r k0 h
    exact t_X12_decide_347s hS (fun k0 h => ih k0 h) k0 h

def f_X12_decide_188s (F P : Nat) (S : xSt) (rec_188 : Nat → Int32 → Int32 → Int32 → Int32 → Int32 → Int32 → xDt → Option (Int32 × xDt)) (v0 : Nat) (v1 : Int32) (v2 : Int32) (v3 : Int32) (v4 : Int32) (v5 : Int32) (v6 : Int32) (D : xDt) : Option (Int32 × xDt) :=
  if v4 ≤ v6 then (f_X12_decide_347 F P S F v0 v1 v4 v5 1 D) else ((f_X12_reckon F P S v0 v6 v3 D).bind fun q1 => (f_X12_isType F P S v0 v6 q1).bind fun q2 => xgrd (xin v6 (xl S (xr S v0 39))) (xlet (xup q2.2.1 (xr S v0 39) (v6).toNatClampNeg (q2.1 &&& 1), q2.2.2) fun D4 => xgrd (xin v6 (xl S (xr S v0 39))) (if (D4.1 (xr S v0 39) (v6).toNatClampNeg) = 0 then (f_X12_decide_232 F P S rec_188 v0 v1 v2 v3 v4 v6 0 v5 D4) else (f_X12_decide_232 F P S rec_188 v0 v1 v2 v3 v4 v6 1 v5 D4))))
def f_X12_decide_188 (F P : Nat) (S : xSt) : Nat → Nat → Int32 → Int32 → Int32 → Int32 → Int32 → Int32 → xDt → Option (Int32 × xDt)
  | 0 => fun _ _ _ _ _ _ _ _ => none
  | n + 1 => f_X12_decide_188s F P S (f_X12_decide_188 F P S n)
set_option maxHeartbeats 4000000 in
theorem t_X12_decide_188s {F P : Nat} {S : xSt} (hS : xWF S) {rec_188 : Nat → Int32 → Int32 → Int32 → Int32 → Int32 → Int32 → xDt → Option (Int32 × xDt)} (hrec_188 : ∀ {v0 : Nat} {v1 : Int32} {v2 : Int32} {v3 : Int32} {v4 : Int32} {v5 : Int32} {v6 : Int32} {D : xDt} {r : Int32 × xDt}, xK S v0 12 → rec_188 v0 v1 v2 v3 v4 v5 v6 D = some r → yEx md_X12_decide (P + 3) 188 [(0, .ref v0), (1, .int v1), (2, .int v2), (3, .int v3), (4, .int v4), (5, .int v5), (6, .int v6)] [] S D (xQi S r)) {v0 : Nat} {v1 : Int32} {v2 : Int32} {v3 : Int32} {v4 : Int32} {v5 : Int32} {v6 : Int32} {D : xDt} {r : Int32 × xDt} (k0 : xK S v0 12) (h : f_X12_decide_188s F P S rec_188 v0 v1 v2 v3 v4 v5 v6 D = some r) : yEx md_X12_decide (P + 3) 188 [(0, .ref v0), (1, .int v1), (2, .int v2), (3, .int v3), (4, .int v4), (5, .int v5), (6, .int v6)] [] S D (xQi S r) := by
  unfold f_X12_decide_188s at h
  refine x_iload dX12_decide_188 6 rfl ?_
  refine x_iload dX12_decide_190 4 rfl ?_
  refine x_icmp_ge 344 dX12_decide_192 (by decide) (fun c => ?_) (fun c => ?_)
  · rw [if_pos c] at h
    refine x_iconst 1 dX12_decide_344 (by decide) ?_
    refine y_istore 1 rfl [(6, .int 1), (0, .ref v0), (1, .int v1), (2, .int v2), (3, .int v3), (4, .int v4), (5, .int v5)] dX12_decide_345 (by show _ < 10; decide) rfl ?_
    refine x_lv (lv' := [(0, .ref v0), (1, .int v1), (4, .int v4), (5, .int v5), (6, .int 1)]) [1, 2, 5, 6, 0] rfl ?_
    exact t_X12_decide_347 hS F k0 h
  · rw [if_neg c] at h
    refine x_aload_n dX12_decide_195 0 rfl ?_
    refine x_iload dX12_decide_196 6 rfl ?_
    refine x_iload_n dX12_decide_198 3 rfl ?_
    refine xbnd_e h (fun q1 e1 h => ?_)
    refine y_callVv (As := [.int v6, .int v3]) (q := q1) cv_RX12_329 dX12_decide_199 k0 rfl (Nat.le_of_ble_eq_true rfl) (by omega) (S_X12_reckon hS k0 e1) ?_
    refine x_aload_n dX12_decide_202 0 rfl ?_
    refine y_getr (kd := 104) hS fl_RX12_137 dX12_decide_203 rfl k0 ?_
    refine x_iload dX12_decide_206 6 rfl ?_
    refine x_aload_n dX12_decide_208 0 rfl ?_
    refine x_iload dX12_decide_209 6 rfl ?_
    refine xbnd_e h (fun q2 e2 h => ?_)
    refine y_callVi (As := [.int v6]) (q := q2) cv_RX12_332 dX12_decide_211 k0 rfl (Nat.le_of_ble_eq_true rfl) (by omega) (S_X12_isType hS k0 e2) ?_
    refine xgrd_e h (fun g3 h => ?_)
    refine xlet_e h (fun D4 eD4 h => ?_)
    refine y_zast dX12_decide_214 ((hS.f k0 39 104 rfl).2) g3 eD4 ?_
    refine x_iload dX12_decide_215 5 rfl ?_
    refine x_aload_n dX12_decide_217 0 rfl ?_
    refine y_getr (kd := 104) hS fl_RX12_137 dX12_decide_218 rfl k0 ?_
    refine x_iload dX12_decide_221 6 rfl ?_
    refine xgrd_e h (fun g5 h => ?_)
    refine y_zald dX12_decide_223 ((hS.f k0 39 104 rfl).2) g5 ?_
    refine x_if_eq 231 dX12_decide_224 (by decide) (fun c => ?_) (fun c => ?_)
    · rw [if_pos c] at h
      refine x_iconst 0 dX12_decide_231 (by decide) ?_
      refine x_lv (lv' := [(0, .ref v0), (1, .int v1), (2, .int v2), (3, .int v3), (4, .int v4), (6, .int v6)]) [0, 1, 2, 3, 4, 6] rfl ?_
      exact t_X12_decide_232 hS hrec_188 k0 h
    · rw [if_neg c] at h
      refine x_iconst 1 dX12_decide_227 (by decide) ?_
      refine x_goto 232 dX12_decide_228 (by decide) ?_
      refine x_lv (lv' := [(0, .ref v0), (1, .int v1), (2, .int v2), (3, .int v3), (4, .int v4), (6, .int v6)]) [0, 1, 2, 3, 4, 6] rfl ?_
      exact t_X12_decide_232 hS hrec_188 k0 h
theorem t_X12_decide_188 {F P : Nat} {S : xSt} (hS : xWF S) : ∀ (n : Nat) {v0 : Nat} {v1 : Int32} {v2 : Int32} {v3 : Int32} {v4 : Int32} {v5 : Int32} {v6 : Int32} {D : xDt} {r : Int32 × xDt}, xK S v0 12 → f_X12_decide_188 F P S n v0 v1 v2 v3 v4 v5 v6 D = some r → yEx md_X12_decide (P + 3) 188 [(0, .ref v0), (1, .int v1), (2, .int v2), (3, .int v3), (4, .int v4), (5, .int v5), (6, .int v6)] [] S D (xQi S r) := by
  intro n
  induction n with
  | zero => intros; rename_i h; cases h
  | succ n ih =>
    intro v0 v1 v2 v3 v4 v5 v6 D r k0 h
    exact t_X12_decide_188s hS (fun k0 h => ih k0 h) k0 h

def f_X12_decide_56s (F P : Nat) (S : xSt) (rec_56 : Nat → Int32 → Int32 → Int32 → Int32 → xDt → Option (Int32 × xDt)) (v0 : Nat) (v1 : Int32) (v2 : Int32) (v3 : Int32) (v4 : Int32) (D : xDt) : Option (Int32 × xDt) :=
  if v3 ≤ v4 then (if (D.1 v0 38) ≤ 13 then (xlet (D.1 v0 13) fun v3_1 => xlet (jishl 1 (D.1 v0 38)) fun v4_2 => f_X12_decide_188 F P S F v0 v1 v2 v3_1 v4_2 0 0 D) else (some ((-3), D))) else (xgrd (xin v4 (xl S (xr S v0 8))) (xlet (D.1 (xr S v0 8) (v4).toNatClampNeg) fun v5_4 => if v5_4 = 1 then (f_X12_decide_90 F P S rec_56 v0 v1 v2 v3 v4 v5_4 D) else (if v5_4 = 5 then (f_X12_decide_90 F P S rec_56 v0 v1 v2 v3 v4 v5_4 D) else (if v5_4 = 8 then (f_X12_decide_90 F P S rec_56 v0 v1 v2 v3 v4 v5_4 D) else (f_X12_decide_96 F P S rec_56 v0 v1 v2 v3 v4 v5_4 D)))))
def f_X12_decide_56 (F P : Nat) (S : xSt) : Nat → Nat → Int32 → Int32 → Int32 → Int32 → xDt → Option (Int32 × xDt)
  | 0 => fun _ _ _ _ _ _ => none
  | n + 1 => f_X12_decide_56s F P S (f_X12_decide_56 F P S n)
set_option maxHeartbeats 4000000 in
theorem t_X12_decide_56s {F P : Nat} {S : xSt} (hS : xWF S) {rec_56 : Nat → Int32 → Int32 → Int32 → Int32 → xDt → Option (Int32 × xDt)} (hrec_56 : ∀ {v0 : Nat} {v1 : Int32} {v2 : Int32} {v3 : Int32} {v4 : Int32} {D : xDt} {r : Int32 × xDt}, xK S v0 12 → rec_56 v0 v1 v2 v3 v4 D = some r → yEx md_X12_decide (P + 3) 56 [(0, .ref v0), (1, .int v1), (2, .int v2), (3, .int v3), (4, .int v4)] [] S D (xQi S r)) {v0 : Nat} {v1 : Int32} {v2 : Int32} {v3 : Int32} {v4 : Int32} {D : xDt} {r : Int32 × xDt} (k0 : xK S v0 12) (h : f_X12_decide_56s F P S rec_56 v0 v1 v2 v3 v4 D = some r) : yEx md_X12_decide (P + 3) 56 [(0, .ref v0), (1, .int v1), (2, .int v2), (3, .int v3), (4, .int v4)] [] S D (xQi S r) := by
  unfold f_X12_decide_56s at h
  refine x_iload dX12_decide_56 4 rfl ?_
  refine x_iload_n dX12_decide_58 3 rfl ?_
  refine x_icmp_ge 157 dX12_decide_59 (by decide) (fun c => ?_) (fun c => ?_)
  · rw [if_pos c] at h
    refine x_aload_n dX12_decide_157 0 rfl ?_
    refine y_geti fl_RX12_310 dX12_decide_158 rfl k0 ?_
    refine x_bipush 13 dX12_decide_161 (by decide) ?_
    refine x_icmp_le 169 dX12_decide_163 (by decide) (fun c => ?_) (fun c => ?_)
    · rw [if_pos c] at h
      refine x_aload_n dX12_decide_169 0 rfl ?_
      refine y_geti fl_RX12_153 dX12_decide_170 rfl k0 ?_
      refine xlet_e h (fun v3_1 ev3_1 h => ?_)
      refine y_istore_n v3_1 ev3_1 [(3, .int v3_1), (0, .ref v0), (1, .int v1), (2, .int v2), (4, .int v4)] dX12_decide_173 (by show _ < 10; decide) rfl ?_
      refine x_iconst 1 dX12_decide_174 (by decide) ?_
      refine x_aload_n dX12_decide_175 1 rfl ?_
      refine y_geti fl_RX12_310 dX12_decide_176 rfl k0 ?_
      refine x_ishl dX12_decide_179 ?_
      refine xlet_e h (fun v4_2 ev4_2 h => ?_)
      refine y_istore v4_2 ev4_2 [(4, .int v4_2), (3, .int v3_1), (0, .ref v0), (1, .int v1), (2, .int v2)] dX12_decide_180 (by show _ < 10; decide) rfl ?_
      refine x_iconst 0 dX12_decide_182 (by decide) ?_
      refine y_istore 0 rfl [(5, .int 0), (4, .int v4_2), (3, .int v3_1), (0, .ref v0), (1, .int v1), (2, .int v2)] dX12_decide_183 (by show _ < 10; decide) rfl ?_
      refine x_iconst 0 dX12_decide_185 (by decide) ?_
      refine y_istore 0 rfl [(6, .int 0), (5, .int 0), (4, .int v4_2), (3, .int v3_1), (0, .ref v0), (1, .int v1), (2, .int v2)] dX12_decide_186 (by show _ < 10; decide) rfl ?_
      refine x_lv (lv' := [(0, .ref v0), (1, .int v1), (2, .int v2), (3, .int v3_1), (4, .int v4_2), (5, .int 0), (6, .int 0)]) [4, 5, 6, 3, 2, 1, 0] rfl ?_
      exact t_X12_decide_188 hS F k0 h
    · rw [if_neg c] at h
      refine x_bipush (-3) dX12_decide_166 (by decide) ?_
      obtain rfl := Option.some.inj h
      exact y_iret rfl dX12_decide_168
  · rw [if_neg c] at h
    refine x_aload_n dX12_decide_62 0 rfl ?_
    refine y_getr (kd := 100) hS fl_RX12_72 dX12_decide_63 rfl k0 ?_
    refine x_iload dX12_decide_66 4 rfl ?_
    refine xgrd_e h (fun g3 h => ?_)
    refine y_iald dX12_decide_68 ((hS.f k0 8 100 rfl).2) g3 ?_
    refine xlet_e h (fun v5_4 ev5_4 h => ?_)
    refine y_istore v5_4 ev5_4 [(5, .int v5_4), (0, .ref v0), (1, .int v1), (2, .int v2), (3, .int v3), (4, .int v4)] dX12_decide_69 (by show _ < 10; decide) rfl ?_
    refine x_iload dX12_decide_71 0 rfl ?_
    refine x_iconst 1 dX12_decide_73 (by decide) ?_
    refine x_icmp_eq 90 dX12_decide_74 (by decide) (fun c => ?_) (fun c => ?_)
    · rw [if_pos c] at h
      refine x_lv (lv' := [(0, .ref v0), (1, .int v1), (2, .int v2), (3, .int v3), (4, .int v4), (5, .int v5_4)]) [1, 2, 3, 4, 5, 0] rfl ?_
      exact t_X12_decide_90 hS hrec_56 k0 h
    · rw [if_neg c] at h
      refine x_iload dX12_decide_77 0 rfl ?_
      refine x_iconst 5 dX12_decide_79 (by decide) ?_
      refine x_icmp_eq 90 dX12_decide_80 (by decide) (fun c => ?_) (fun c => ?_)
      · rw [if_pos c] at h
        refine x_lv (lv' := [(0, .ref v0), (1, .int v1), (2, .int v2), (3, .int v3), (4, .int v4), (5, .int v5_4)]) [1, 2, 3, 4, 5, 0] rfl ?_
        exact t_X12_decide_90 hS hrec_56 k0 h
      · rw [if_neg c] at h
        refine x_iload dX12_decide_83 0 rfl ?_
        refine x_bipush 8 dX12_decide_85 (by decide) ?_
        refine x_icmp_ne 96 dX12_decide_87 (by decide) (fun c => ?_) (fun c => ?_)
        · rw [if_neg c] at h
          refine x_lv (lv' := [(0, .ref v0), (1, .int v1), (2, .int v2), (3, .int v3), (4, .int v4), (5, .int v5_4)]) [1, 2, 3, 4, 5, 0] rfl ?_
          exact t_X12_decide_96 hS hrec_56 k0 h
        · rw [if_pos c] at h
          refine x_lv (lv' := [(0, .ref v0), (1, .int v1), (2, .int v2), (3, .int v3), (4, .int v4), (5, .int v5_4)]) [1, 2, 3, 4, 5, 0] rfl ?_
          exact t_X12_decide_90 hS hrec_56 k0 h
theorem t_X12_decide_56 {F P : Nat} {S : xSt} (hS : xWF S) : ∀ (n : Nat) {v0 : Nat} {v1 : Int32} {v2 : Int32} {v3 : Int32} {v4 : Int32} {D : xDt} {r : Int32 × xDt}, xK S v0 12 → f_X12_decide_56 F P S n v0 v1 v2 v3 v4 D = some r → yEx md_X12_decide (P + 3) 56 [(0, .ref v0), (1, .int v1), (2, .int v2), (3, .int v3), (4, .int v4)] [] S D (xQi S r) := by
  intro n
  induction n with
  | zero => intros; rename_i h; cases h
  | succ n ih =>
    intro v0 v1 v2 v3 v4 D r k0 h
    exact t_X12_decide_56s hS (fun k0 h => ih k0 h) k0 h

def f_X12_decide (F P : Nat) (S : xSt) (v0 : Nat) (v1 : Int32) (D : xDt) : Option (Int32 × xDt) :=
  (f_X12_in F P S v1 0 5 D).bind fun q1 => if q1.1 = 0 then (some ((-1), q1.2)) else ((f_X12_has F P S P v0 (q1.2.1 v0 14) 49664 q1.2).bind fun q2 => if q2.1 = 0 then (xlet (xup q2.2.1 v0 13 12800, q2.2.2) fun D3 => (f_X12_plain F P S P v0 (D3.1 v0 14) D3).bind fun q4 => xlet (q4.2.1 v0 13) fun v3_5 => xlet (xup q4.2.1 v0 38 0, q4.2.2) fun D6 => f_X12_decide_56 F P S F v0 v1 q4.1 v3_5 12800 D6) else (some ((-1), q2.2)))
set_option maxHeartbeats 4000000 in
theorem S_X12_decide {F P : Nat} {S : xSt} (hS : xWF S) {v0 : Nat} {v1 : Int32} {D : xDt} {r : Int32 × xDt} (k0 : xK S v0 12) (h : f_X12_decide F P S v0 v1 D = some r) : xSp md_X12_decide ((P + 3), 0, 0) [.ref v0, .int v1] (S, D) (xQi S r) := by
  unfold f_X12_decide at h
  refine xEntry (by decide) (Nat.le_of_ble_eq_true rfl) ?_
  refine x_lv (lv' := [(0, .ref v0), (1, .int v1)]) [0, 1] rfl ?_
  refine x_iload_n dX12_decide_0 1 rfl ?_
  refine x_iconst 0 dX12_decide_1 (by decide) ?_
  refine x_iconst 5 dX12_decide_2 (by decide) ?_
  refine xbnd_e h (fun q1 e1 h => ?_)
  refine y_callSi (As := [.int v1, .int 0, .int 5]) (q := q1) cs_RX12_10 dX12_decide_3 rfl (Nat.le_of_ble_eq_true rfl) (by omega) (S_X12_in hS e1) ?_
  refine x_if_eq 23 dX12_decide_6 (by decide) (fun c => ?_) (fun c => ?_)
  · rw [if_pos c] at h
    refine x_iconst (-1) dX12_decide_23 (by decide) ?_
    obtain rfl := Option.some.inj h
    exact y_iret rfl dX12_decide_24
  · rw [if_neg c] at h
    refine x_aload_n dX12_decide_9 0 rfl ?_
    refine x_aload_n dX12_decide_10 0 rfl ?_
    refine y_geti fl_RX12_160 dX12_decide_11 rfl k0 ?_
    refine x_ldcw 49664 dX12_decide_14 wd_1504 ?_
    refine xbnd_e h (fun q2 e2 h => ?_)
    refine y_callVi (As := [.int (q1.2.1 v0 14), .int 49664]) (q := q2) cv_RX12_288 dX12_decide_17 k0 rfl (Nat.le_of_ble_eq_true rfl) (by omega) (S_X12_has hS P k0 e2) ?_
    refine x_if_eq 25 dX12_decide_20 (by decide) (fun c => ?_) (fun c => ?_)
    · rw [if_pos c] at h
      refine x_aload_n dX12_decide_25 0 rfl ?_
      refine x_sipush 12800 dX12_decide_26 (by decide) ?_
      refine xlet_e h (fun D3 eD3 h => ?_)
      refine y_puti fp_RX12_153 dX12_decide_29 rfl k0 eD3 ?_
      refine x_aload_n dX12_decide_32 0 rfl ?_
      refine x_aload_n dX12_decide_33 0 rfl ?_
      refine y_geti fl_RX12_160 dX12_decide_34 rfl k0 ?_
      refine xbnd_e h (fun q4 e4 h => ?_)
      refine y_callVi (As := [.int (D3.1 v0 14)]) (q := q4) cv_RX12_304 dX12_decide_37 k0 rfl (Nat.le_of_ble_eq_true rfl) (by omega) (S_X12_plain hS P k0 e4) ?_
      refine y_istore_n q4.1 rfl [(2, .int q4.1), (0, .ref v0), (1, .int v1)] dX12_decide_40 (by show _ < 10; decide) rfl ?_
      refine x_aload_n dX12_decide_41 1 rfl ?_
      refine y_geti fl_RX12_153 dX12_decide_42 rfl k0 ?_
      refine xlet_e h (fun v3_5 ev3_5 h => ?_)
      refine y_istore_n v3_5 ev3_5 [(3, .int v3_5), (2, .int q4.1), (0, .ref v0), (1, .int v1)] dX12_decide_45 (by show _ < 10; decide) rfl ?_
      refine x_aload_n dX12_decide_46 2 rfl ?_
      refine x_iconst 0 dX12_decide_47 (by decide) ?_
      refine xlet_e h (fun D6 eD6 h => ?_)
      refine y_puti fp_RX12_310 dX12_decide_48 rfl k0 eD6 ?_
      refine x_sipush 12800 dX12_decide_51 (by decide) ?_
      refine y_istore 12800 rfl [(4, .int 12800), (3, .int v3_5), (2, .int q4.1), (0, .ref v0), (1, .int v1)] dX12_decide_54 (by show _ < 10; decide) rfl ?_
      refine x_lv (lv' := [(0, .ref v0), (1, .int v1), (2, .int q4.1), (3, .int v3_5), (4, .int 12800)]) [3, 4, 2, 1, 0] rfl ?_
      exact t_X12_decide_56 hS F k0 h
    · rw [if_neg c] at h
      refine x_iconst (-1) dX12_decide_23 (by decide) ?_
      obtain rfl := Option.some.inj h
      exact y_iret rfl dX12_decide_24

theorem dX12_depth_0 : decode cX12_depth 0 = .ok (.aload_n 0, 1) := by decide +kernel
theorem dX12_depth_1 : decode cX12_depth 1 = .ok (.getfield 75, 3) := by decide +kernel
theorem dX12_depth_4 : decode cX12_depth 4 = .ok (.iload_n 1, 1) := by decide +kernel
theorem dX12_depth_5 : decode cX12_depth 5 = .ok (.iaload, 1) := by decide +kernel
theorem dX12_depth_6 : decode cX12_depth 6 = .ok (.ifCond .ge 7, 3) := by decide +kernel
theorem dX12_depth_9 : decode cX12_depth 9 = .ok (.iconst 0, 1) := by decide +kernel
theorem dX12_depth_10 : decode cX12_depth 10 = .ok (.goto 13, 3) := by decide +kernel
theorem dX12_depth_13 : decode cX12_depth 13 = .ok (.aload_n 0, 1) := by decide +kernel
theorem dX12_depth_14 : decode cX12_depth 14 = .ok (.aload_n 0, 1) := by decide +kernel
theorem dX12_depth_15 : decode cX12_depth 15 = .ok (.getfield 75, 3) := by decide +kernel
theorem dX12_depth_18 : decode cX12_depth 18 = .ok (.iload_n 1, 1) := by decide +kernel
theorem dX12_depth_19 : decode cX12_depth 19 = .ok (.iaload, 1) := by decide +kernel
theorem dX12_depth_20 : decode cX12_depth 20 = .ok (.invokevirtual 338, 3) := by decide +kernel
theorem dX12_depth_23 : decode cX12_depth 23 = .ok (.istore_n 2, 1) := by decide +kernel
theorem dX12_depth_24 : decode cX12_depth 24 = .ok (.aload_n 0, 1) := by decide +kernel
theorem dX12_depth_25 : decode cX12_depth 25 = .ok (.getfield 78, 3) := by decide +kernel
theorem dX12_depth_28 : decode cX12_depth 28 = .ok (.iload_n 1, 1) := by decide +kernel
theorem dX12_depth_29 : decode cX12_depth 29 = .ok (.iaload, 1) := by decide +kernel
theorem dX12_depth_30 : decode cX12_depth 30 = .ok (.ifCond .ge 7, 3) := by decide +kernel
theorem dX12_depth_33 : decode cX12_depth 33 = .ok (.iconst 0, 1) := by decide +kernel
theorem dX12_depth_34 : decode cX12_depth 34 = .ok (.goto 13, 3) := by decide +kernel
theorem dX12_depth_37 : decode cX12_depth 37 = .ok (.aload_n 0, 1) := by decide +kernel
theorem dX12_depth_38 : decode cX12_depth 38 = .ok (.aload_n 0, 1) := by decide +kernel
theorem dX12_depth_39 : decode cX12_depth 39 = .ok (.getfield 78, 3) := by decide +kernel
theorem dX12_depth_42 : decode cX12_depth 42 = .ok (.iload_n 1, 1) := by decide +kernel
theorem dX12_depth_43 : decode cX12_depth 43 = .ok (.iaload, 1) := by decide +kernel
theorem dX12_depth_44 : decode cX12_depth 44 = .ok (.invokevirtual 338, 3) := by decide +kernel
theorem dX12_depth_47 : decode cX12_depth 47 = .ok (.istore_n 3, 1) := by decide +kernel
theorem dX12_depth_48 : decode cX12_depth 48 = .ok (.iload_n 2, 1) := by decide +kernel
theorem dX12_depth_49 : decode cX12_depth 49 = .ok (.iload_n 3, 1) := by decide +kernel
theorem dX12_depth_50 : decode cX12_depth 50 = .ok (.if_icmp .le 7, 3) := by decide +kernel
theorem dX12_depth_53 : decode cX12_depth 53 = .ok (.iload_n 2, 1) := by decide +kernel
theorem dX12_depth_54 : decode cX12_depth 54 = .ok (.goto 4, 3) := by decide +kernel
theorem dX12_depth_57 : decode cX12_depth 57 = .ok (.iload_n 3, 1) := by decide +kernel
theorem dX12_depth_58 : decode cX12_depth 58 = .ok (.istore 4, 2) := by decide +kernel
theorem dX12_depth_60 : decode cX12_depth 60 = .ok (.aload_n 0, 1) := by decide +kernel
theorem dX12_depth_61 : decode cX12_depth 61 = .ok (.getfield 72, 3) := by decide +kernel
theorem dX12_depth_64 : decode cX12_depth 64 = .ok (.iload_n 1, 1) := by decide +kernel
theorem dX12_depth_65 : decode cX12_depth 65 = .ok (.iaload, 1) := by decide +kernel
theorem dX12_depth_66 : decode cX12_depth 66 = .ok (.iconst 5, 1) := by decide +kernel
theorem dX12_depth_67 : decode cX12_depth 67 = .ok (.if_icmp .lt 21, 3) := by decide +kernel
theorem dX12_depth_70 : decode cX12_depth 70 = .ok (.aload_n 0, 1) := by decide +kernel
theorem dX12_depth_71 : decode cX12_depth 71 = .ok (.getfield 72, 3) := by decide +kernel
theorem dX12_depth_74 : decode cX12_depth 74 = .ok (.iload_n 1, 1) := by decide +kernel
theorem dX12_depth_75 : decode cX12_depth 75 = .ok (.iaload, 1) := by decide +kernel
theorem dX12_depth_76 : decode cX12_depth 76 = .ok (.bipush 9, 2) := by decide +kernel
theorem dX12_depth_78 : decode cX12_depth 78 = .ok (.if_icmp .gt 10, 3) := by decide +kernel
theorem dX12_depth_81 : decode cX12_depth 81 = .ok (.iload 4, 2) := by decide +kernel
theorem dX12_depth_83 : decode cX12_depth 83 = .ok (.iconst 1, 1) := by decide +kernel
theorem dX12_depth_84 : decode cX12_depth 84 = .ok (.iadd, 1) := by decide +kernel
theorem dX12_depth_85 : decode cX12_depth 85 = .ok (.goto 5, 3) := by decide +kernel
theorem dX12_depth_88 : decode cX12_depth 88 = .ok (.iload 4, 2) := by decide +kernel
theorem dX12_depth_90 : decode cX12_depth 90 = .ok (.ireturn, 1) := by decide +kernel
def f_X12_depth_88 (F P : Nat) (S : xSt) (self_X12_depth : Nat → Int32 → xDt → Option (Int32 × xDt)) (v4 : Int32) (D : xDt) : Option (Int32 × xDt) :=
  some (v4, D)
set_option maxHeartbeats 4000000 in
theorem t_X12_depth_88 {F P : Nat} {S : xSt} (hS : xWF S) {hh : Nat} (hhc : 0 ≤ hh) {self_X12_depth : Nat → Int32 → xDt → Option (Int32 × xDt)} (hself_X12_depth : ∀ {v0 : Nat} {v1 : Int32} {D : xDt} {r : Int32 × xDt}, xK S v0 12 → self_X12_depth v0 v1 D = some r → xSp md_X12_depth (hh, 0, 0) [.ref v0, .int v1] (S, D) (xQi S r)) {v4 : Int32} {D : xDt} {r : Int32 × xDt} (h : f_X12_depth_88 F P S self_X12_depth v4 D = some r) : yEx md_X12_depth (hh + 1) 88 [(4, .int v4)] [] S D (xQi S r) := by
  unfold f_X12_depth_88 at h
  refine x_iload dX12_depth_88 0 rfl ?_
  obtain rfl := Option.some.inj h
  exact y_iret rfl dX12_depth_90

def f_X12_depth_58 (F P : Nat) (S : xSt) (self_X12_depth : Nat → Int32 → xDt → Option (Int32 × xDt)) (v0 : Nat) (v1 : Int32) (s0 : Int32) (D : xDt) : Option (Int32 × xDt) :=
  xgrd (xin v1 (xl S (xr S v0 8))) (if (D.1 (xr S v0 8) (v1).toNatClampNeg) < 5 then (f_X12_depth_88 F P S self_X12_depth s0 D) else (xgrd (xin v1 (xl S (xr S v0 8))) (if 9 < (D.1 (xr S v0 8) (v1).toNatClampNeg) then (f_X12_depth_88 F P S self_X12_depth s0 D) else (some (s0 + 1, D)))))
set_option maxHeartbeats 4000000 in
theorem t_X12_depth_58 {F P : Nat} {S : xSt} (hS : xWF S) {hh : Nat} (hhc : 0 ≤ hh) {self_X12_depth : Nat → Int32 → xDt → Option (Int32 × xDt)} (hself_X12_depth : ∀ {v0 : Nat} {v1 : Int32} {D : xDt} {r : Int32 × xDt}, xK S v0 12 → self_X12_depth v0 v1 D = some r → xSp md_X12_depth (hh, 0, 0) [.ref v0, .int v1] (S, D) (xQi S r)) {v0 : Nat} {v1 : Int32} {s0 : Int32} {D : xDt} {r : Int32 × xDt} (k0 : xK S v0 12) (h : f_X12_depth_58 F P S self_X12_depth v0 v1 s0 D = some r) : yEx md_X12_depth (hh + 1) 58 [(0, .ref v0), (1, .int v1)] [.int s0] S D (xQi S r) := by
  unfold f_X12_depth_58 at h
  refine y_istore s0 rfl [(4, .int s0), (0, .ref v0), (1, .int v1)] dX12_depth_58 (by show _ < 5; decide) rfl ?_
  refine x_aload_n dX12_depth_60 1 rfl ?_
  refine y_getr (kd := 100) hS fl_RX12_72 dX12_depth_61 rfl k0 ?_
  refine x_iload_n dX12_depth_64 2 rfl ?_
  refine xgrd_e h (fun g1 h => ?_)
  refine y_iald dX12_depth_65 ((hS.f k0 8 100 rfl).2) g1 ?_
  refine x_iconst 5 dX12_depth_66 (by decide) ?_
  refine x_icmp_lt 88 dX12_depth_67 (by decide) (fun c => ?_) (fun c => ?_)
  · rw [if_pos c] at h
    refine x_lv (lv' := [(4, .int s0)]) [0] rfl ?_
    exact t_X12_depth_88 hS hhc hself_X12_depth h
  · rw [if_neg c] at h
    refine x_aload_n dX12_depth_70 1 rfl ?_
    refine y_getr (kd := 100) hS fl_RX12_72 dX12_depth_71 rfl k0 ?_
    refine x_iload_n dX12_depth_74 2 rfl ?_
    refine xgrd_e h (fun g2 h => ?_)
    refine y_iald dX12_depth_75 ((hS.f k0 8 100 rfl).2) g2 ?_
    refine x_bipush 9 dX12_depth_76 (by decide) ?_
    refine x_icmp_gt 88 dX12_depth_78 (by decide) (fun c => ?_) (fun c => ?_)
    · rw [if_pos c] at h
      refine x_lv (lv' := [(4, .int s0)]) [0] rfl ?_
      exact t_X12_depth_88 hS hhc hself_X12_depth h
    · rw [if_neg c] at h
      refine x_iload dX12_depth_81 0 rfl ?_
      refine x_iconst 1 dX12_depth_83 (by decide) ?_
      refine x_iadd dX12_depth_84 ?_
      refine x_goto 90 dX12_depth_85 (by decide) ?_
      obtain rfl := Option.some.inj h
      exact y_iret rfl dX12_depth_90

def f_X12_depth_47 (F P : Nat) (S : xSt) (self_X12_depth : Nat → Int32 → xDt → Option (Int32 × xDt)) (v0 : Nat) (v1 : Int32) (v2 : Int32) (s0 : Int32) (D : xDt) : Option (Int32 × xDt) :=
  if v2 ≤ s0 then (f_X12_depth_58 F P S self_X12_depth v0 v1 s0 D) else (f_X12_depth_58 F P S self_X12_depth v0 v1 v2 D)
set_option maxHeartbeats 4000000 in
theorem t_X12_depth_47 {F P : Nat} {S : xSt} (hS : xWF S) {hh : Nat} (hhc : 0 ≤ hh) {self_X12_depth : Nat → Int32 → xDt → Option (Int32 × xDt)} (hself_X12_depth : ∀ {v0 : Nat} {v1 : Int32} {D : xDt} {r : Int32 × xDt}, xK S v0 12 → self_X12_depth v0 v1 D = some r → xSp md_X12_depth (hh, 0, 0) [.ref v0, .int v1] (S, D) (xQi S r)) {v0 : Nat} {v1 : Int32} {v2 : Int32} {s0 : Int32} {D : xDt} {r : Int32 × xDt} (k0 : xK S v0 12) (h : f_X12_depth_47 F P S self_X12_depth v0 v1 v2 s0 D = some r) : yEx md_X12_depth (hh + 1) 47 [(0, .ref v0), (1, .int v1), (2, .int v2)] [.int s0] S D (xQi S r) := by
  unfold f_X12_depth_47 at h
  refine y_istore_n s0 rfl [(3, .int s0), (0, .ref v0), (1, .int v1), (2, .int v2)] dX12_depth_47 (by show _ < 5; decide) rfl ?_
  refine x_iload_n dX12_depth_48 3 rfl ?_
  refine x_iload_n dX12_depth_49 0 rfl ?_
  refine x_icmp_le 57 dX12_depth_50 (by decide) (fun c => ?_) (fun c => ?_)
  · rw [if_pos c] at h
    refine x_iload_n dX12_depth_57 0 rfl ?_
    refine x_lv (lv' := [(0, .ref v0), (1, .int v1)]) [1, 2] rfl ?_
    exact t_X12_depth_58 hS hhc hself_X12_depth k0 h
  · rw [if_neg c] at h
    refine x_iload_n dX12_depth_53 3 rfl ?_
    refine x_goto 58 dX12_depth_54 (by decide) ?_
    refine x_lv (lv' := [(0, .ref v0), (1, .int v1)]) [1, 2] rfl ?_
    exact t_X12_depth_58 hS hhc hself_X12_depth k0 h

def f_X12_depth_23 (F P : Nat) (S : xSt) (self_X12_depth : Nat → Int32 → xDt → Option (Int32 × xDt)) (v0 : Nat) (v1 : Int32) (s0 : Int32) (D : xDt) : Option (Int32 × xDt) :=
  xgrd (xin v1 (xl S (xr S v0 10))) (if 0 ≤ (D.1 (xr S v0 10) (v1).toNatClampNeg) then (xgrd (xin v1 (xl S (xr S v0 10))) ((self_X12_depth v0 (D.1 (xr S v0 10) (v1).toNatClampNeg) D).bind fun q3 => f_X12_depth_47 F P S self_X12_depth v0 v1 s0 q3.1 q3.2)) else (f_X12_depth_47 F P S self_X12_depth v0 v1 s0 0 D))
set_option maxHeartbeats 4000000 in
theorem t_X12_depth_23 {F P : Nat} {S : xSt} (hS : xWF S) {hh : Nat} (hhc : 0 ≤ hh) {self_X12_depth : Nat → Int32 → xDt → Option (Int32 × xDt)} (hself_X12_depth : ∀ {v0 : Nat} {v1 : Int32} {D : xDt} {r : Int32 × xDt}, xK S v0 12 → self_X12_depth v0 v1 D = some r → xSp md_X12_depth (hh, 0, 0) [.ref v0, .int v1] (S, D) (xQi S r)) {v0 : Nat} {v1 : Int32} {s0 : Int32} {D : xDt} {r : Int32 × xDt} (k0 : xK S v0 12) (h : f_X12_depth_23 F P S self_X12_depth v0 v1 s0 D = some r) : yEx md_X12_depth (hh + 1) 23 [(0, .ref v0), (1, .int v1)] [.int s0] S D (xQi S r) := by
  unfold f_X12_depth_23 at h
  refine y_istore_n s0 rfl [(2, .int s0), (0, .ref v0), (1, .int v1)] dX12_depth_23 (by show _ < 5; decide) rfl ?_
  refine x_aload_n dX12_depth_24 1 rfl ?_
  refine y_getr (kd := 100) hS fl_RX12_78 dX12_depth_25 rfl k0 ?_
  refine x_iload_n dX12_depth_28 2 rfl ?_
  refine xgrd_e h (fun g1 h => ?_)
  refine y_iald dX12_depth_29 ((hS.f k0 10 100 rfl).2) g1 ?_
  refine x_if_ge 37 dX12_depth_30 (by decide) (fun c => ?_) (fun c => ?_)
  · rw [if_pos c] at h
    refine x_aload_n dX12_depth_37 1 rfl ?_
    refine x_aload_n dX12_depth_38 1 rfl ?_
    refine y_getr (kd := 100) hS fl_RX12_78 dX12_depth_39 rfl k0 ?_
    refine x_iload_n dX12_depth_42 2 rfl ?_
    refine xgrd_e h (fun g2 h => ?_)
    refine y_iald dX12_depth_43 ((hS.f k0 10 100 rfl).2) g2 ?_
    refine xbnd_e h (fun q3 e3 h => ?_)
    refine y_callVi (As := [.int (D.1 (xr S v0 10) (v1).toNatClampNeg)]) (q := q3) cv_RX12_338 dX12_depth_44 k0 rfl (Nat.le_of_ble_eq_true rfl) (by omega) (hself_X12_depth k0 e3) ?_
    refine x_lv (lv' := [(0, .ref v0), (1, .int v1), (2, .int s0)]) [1, 2, 0] rfl ?_
    exact t_X12_depth_47 hS hhc hself_X12_depth k0 h
  · rw [if_neg c] at h
    refine x_iconst 0 dX12_depth_33 (by decide) ?_
    refine x_goto 47 dX12_depth_34 (by decide) ?_
    refine x_lv (lv' := [(0, .ref v0), (1, .int v1), (2, .int s0)]) [1, 2, 0] rfl ?_
    exact t_X12_depth_47 hS hhc hself_X12_depth k0 h

def f_X12_depth_o (F P : Nat) (S : xSt) (self_X12_depth : Nat → Int32 → xDt → Option (Int32 × xDt)) (v0 : Nat) (v1 : Int32) (D : xDt) : Option (Int32 × xDt) :=
  xgrd (xin v1 (xl S (xr S v0 9))) (if 0 ≤ (D.1 (xr S v0 9) (v1).toNatClampNeg) then (xgrd (xin v1 (xl S (xr S v0 9))) ((self_X12_depth v0 (D.1 (xr S v0 9) (v1).toNatClampNeg) D).bind fun q3 => f_X12_depth_23 F P S self_X12_depth v0 v1 q3.1 q3.2)) else (f_X12_depth_23 F P S self_X12_depth v0 v1 0 D))
set_option maxHeartbeats 4000000 in
theorem S_X12_depth_o {F P : Nat} {S : xSt} (hS : xWF S) {hh : Nat} (hhc : 0 ≤ hh) {self_X12_depth : Nat → Int32 → xDt → Option (Int32 × xDt)} (hself_X12_depth : ∀ {v0 : Nat} {v1 : Int32} {D : xDt} {r : Int32 × xDt}, xK S v0 12 → self_X12_depth v0 v1 D = some r → xSp md_X12_depth (hh, 0, 0) [.ref v0, .int v1] (S, D) (xQi S r)) {v0 : Nat} {v1 : Int32} {D : xDt} {r : Int32 × xDt} (k0 : xK S v0 12) (h : f_X12_depth_o F P S self_X12_depth v0 v1 D = some r) : xSp md_X12_depth ((hh + 1), 0, 0) [.ref v0, .int v1] (S, D) (xQi S r) := by
  unfold f_X12_depth_o at h
  refine xEntry (by decide) (Nat.le_of_ble_eq_true rfl) ?_
  refine x_lv (lv' := [(0, .ref v0), (1, .int v1)]) [0, 1] rfl ?_
  refine x_aload_n dX12_depth_0 0 rfl ?_
  refine y_getr (kd := 100) hS fl_RX12_75 dX12_depth_1 rfl k0 ?_
  refine x_iload_n dX12_depth_4 1 rfl ?_
  refine xgrd_e h (fun g1 h => ?_)
  refine y_iald dX12_depth_5 ((hS.f k0 9 100 rfl).2) g1 ?_
  refine x_if_ge 13 dX12_depth_6 (by decide) (fun c => ?_) (fun c => ?_)
  · rw [if_pos c] at h
    refine x_aload_n dX12_depth_13 0 rfl ?_
    refine x_aload_n dX12_depth_14 0 rfl ?_
    refine y_getr (kd := 100) hS fl_RX12_75 dX12_depth_15 rfl k0 ?_
    refine x_iload_n dX12_depth_18 1 rfl ?_
    refine xgrd_e h (fun g2 h => ?_)
    refine y_iald dX12_depth_19 ((hS.f k0 9 100 rfl).2) g2 ?_
    refine xbnd_e h (fun q3 e3 h => ?_)
    refine y_callVi (As := [.int (D.1 (xr S v0 9) (v1).toNatClampNeg)]) (q := q3) cv_RX12_338 dX12_depth_20 k0 rfl (Nat.le_of_ble_eq_true rfl) (by omega) (hself_X12_depth k0 e3) ?_
    exact t_X12_depth_23 hS hhc hself_X12_depth k0 h
  · rw [if_neg c] at h
    refine x_iconst 0 dX12_depth_9 (by decide) ?_
    refine x_goto 23 dX12_depth_10 (by decide) ?_
    exact t_X12_depth_23 hS hhc hself_X12_depth k0 h

def f_X12_depth (F P : Nat) (S : xSt) : Nat → Nat → Int32 → xDt → Option (Int32 × xDt)
  | 0 => fun _ _ _ => none
  | n + 1 => f_X12_depth_o F P S (f_X12_depth F P S n)
theorem S_X12_depth {F P : Nat} {S : xSt} (hS : xWF S) : ∀ (n : Nat) {v0 : Nat} {v1 : Int32} {D : xDt} {r : Int32 × xDt}, xK S v0 12 → f_X12_depth F P S n v0 v1 D = some r → xSp md_X12_depth (n + 0, 0, 0) [.ref v0, .int v1] (S, D) (xQi S r) := by
  intro n
  induction n with
  | zero => intros; rename_i h; cases h
  | succ n ih =>
    intro v0 v1 D r k0 h
    have := S_X12_depth_o hS (hh := n + 0) (by omega) (fun k0 h => ih k0 h) k0 h
    rw [show n + 1 + 0 = n + 0 + 1 by omega]
    exact this

theorem dX12_count_0 : decode cX12_count 0 = .ok (.iload_n 1, 1) := by decide +kernel
theorem dX12_count_1 : decode cX12_count 1 = .ok (.tableswitch 78 0 5 #[39, 44, 49, 59, 64, 69], 39) := by decide +kernel
theorem dX12_count_40 : decode cX12_count 40 = .ok (.aload_n 0, 1) := by decide +kernel
theorem dX12_count_41 : decode cX12_count 41 = .ok (.getfield 7, 3) := by decide +kernel
theorem dX12_count_44 : decode cX12_count 44 = .ok (.ireturn, 1) := by decide +kernel
theorem dX12_count_45 : decode cX12_count 45 = .ok (.aload_n 0, 1) := by decide +kernel
theorem dX12_count_46 : decode cX12_count 46 = .ok (.getfield 265, 3) := by decide +kernel
theorem dX12_count_49 : decode cX12_count 49 = .ok (.ireturn, 1) := by decide +kernel
theorem dX12_count_50 : decode cX12_count 50 = .ok (.aload_n 0, 1) := by decide +kernel
theorem dX12_count_51 : decode cX12_count 51 = .ok (.getfield 84, 3) := by decide +kernel
theorem dX12_count_54 : decode cX12_count 54 = .ok (.aload_n 0, 1) := by decide +kernel
theorem dX12_count_55 : decode cX12_count 55 = .ok (.getfield 160, 3) := by decide +kernel
theorem dX12_count_58 : decode cX12_count 58 = .ok (.iaload, 1) := by decide +kernel
theorem dX12_count_59 : decode cX12_count 59 = .ok (.ireturn, 1) := by decide +kernel
theorem dX12_count_60 : decode cX12_count 60 = .ok (.aload_n 0, 1) := by decide +kernel
theorem dX12_count_61 : decode cX12_count 61 = .ok (.getfield 168, 3) := by decide +kernel
theorem dX12_count_64 : decode cX12_count 64 = .ok (.ireturn, 1) := by decide +kernel
theorem dX12_count_65 : decode cX12_count 65 = .ok (.aload_n 0, 1) := by decide +kernel
theorem dX12_count_66 : decode cX12_count 66 = .ok (.getfield 28, 3) := by decide +kernel
theorem dX12_count_69 : decode cX12_count 69 = .ok (.ireturn, 1) := by decide +kernel
theorem dX12_count_70 : decode cX12_count 70 = .ok (.aload_n 0, 1) := by decide +kernel
theorem dX12_count_71 : decode cX12_count 71 = .ok (.aload_n 0, 1) := by decide +kernel
theorem dX12_count_72 : decode cX12_count 72 = .ok (.getfield 160, 3) := by decide +kernel
theorem dX12_count_75 : decode cX12_count 75 = .ok (.invokevirtual 338, 3) := by decide +kernel
theorem dX12_count_78 : decode cX12_count 78 = .ok (.ireturn, 1) := by decide +kernel
theorem dX12_count_79 : decode cX12_count 79 = .ok (.iconst (-1), 1) := by decide +kernel
theorem dX12_count_80 : decode cX12_count 80 = .ok (.ireturn, 1) := by decide +kernel
def f_X12_count (F P : Nat) (S : xSt) (v0 : Nat) (v1 : Int32) (D : xDt) : Option (Int32 × xDt) :=
  if v1 = 0 then (some (D.1 v0 1, D)) else (if v1 = 1 then (some (D.1 v0 25, D)) else (if v1 = 2 then (xgrd (xin (D.1 v0 14) (xl S (xr S v0 12))) (some (D.1 (xr S v0 12) (D.1 v0 14).toNatClampNeg, D))) else (if v1 = 3 then (some (D.1 v0 16, D)) else (if v1 = 4 then (some (D.1 v0 7, D)) else (if v1 = 5 then ((f_X12_depth F P S P v0 (D.1 v0 14) D).bind fun q2 => some (q2.1, q2.2)) else (some ((-1), D)))))))
set_option maxHeartbeats 4000000 in
theorem S_X12_count {F P : Nat} {S : xSt} (hS : xWF S) {v0 : Nat} {v1 : Int32} {D : xDt} {r : Int32 × xDt} (k0 : xK S v0 12) (h : f_X12_count F P S v0 v1 D = some r) : xSp md_X12_count ((P + 1), 0, 0) [.ref v0, .int v1] (S, D) (xQi S r) := by
  unfold f_X12_count at h
  refine xEntry (by decide) (Nat.le_of_ble_eq_true rfl) ?_
  refine x_lv (lv' := [(0, .ref v0), (1, .int v1)]) [0, 1] rfl ?_
  refine x_iload_n dX12_count_0 1 rfl ?_
  by_cases c0 : v1 = 0
  · rw [if_pos c0] at h
    refine x_tsIn 0 40 c0 dX12_count_1 (by decide) (by decide) rfl (by decide) ?_
    refine x_aload_n dX12_count_40 0 rfl ?_
    refine y_geti fl_RX12_7 dX12_count_41 rfl k0 ?_
    obtain rfl := Option.some.inj h
    exact y_iret rfl dX12_count_44
  · rw [if_neg c0] at h
    by_cases c1 : v1 = 1
    · rw [if_pos c1] at h
      refine x_tsIn 1 45 c1 dX12_count_1 (by decide) (by decide) rfl (by decide) ?_
      refine x_aload_n dX12_count_45 0 rfl ?_
      refine y_geti fl_RX12_265 dX12_count_46 rfl k0 ?_
      obtain rfl := Option.some.inj h
      exact y_iret rfl dX12_count_49
    · rw [if_neg c1] at h
      by_cases c2 : v1 = 2
      · rw [if_pos c2] at h
        refine x_tsIn 2 50 c2 dX12_count_1 (by decide) (by decide) rfl (by decide) ?_
        refine x_aload_n dX12_count_50 0 rfl ?_
        refine y_getr (kd := 100) hS fl_RX12_84 dX12_count_51 rfl k0 ?_
        refine x_aload_n dX12_count_54 0 rfl ?_
        refine y_geti fl_RX12_160 dX12_count_55 rfl k0 ?_
        refine xgrd_e h (fun g1 h => ?_)
        refine y_iald dX12_count_58 ((hS.f k0 12 100 rfl).2) g1 ?_
        obtain rfl := Option.some.inj h
        exact y_iret rfl dX12_count_59
      · rw [if_neg c2] at h
        by_cases c3 : v1 = 3
        · rw [if_pos c3] at h
          refine x_tsIn 3 60 c3 dX12_count_1 (by decide) (by decide) rfl (by decide) ?_
          refine x_aload_n dX12_count_60 0 rfl ?_
          refine y_geti fl_RX12_168 dX12_count_61 rfl k0 ?_
          obtain rfl := Option.some.inj h
          exact y_iret rfl dX12_count_64
        · rw [if_neg c3] at h
          by_cases c4 : v1 = 4
          · rw [if_pos c4] at h
            refine x_tsIn 4 65 c4 dX12_count_1 (by decide) (by decide) rfl (by decide) ?_
            refine x_aload_n dX12_count_65 0 rfl ?_
            refine y_geti fl_RX12_28 dX12_count_66 rfl k0 ?_
            obtain rfl := Option.some.inj h
            exact y_iret rfl dX12_count_69
          · rw [if_neg c4] at h
            by_cases c5 : v1 = 5
            · rw [if_pos c5] at h
              refine x_tsIn 5 70 c5 dX12_count_1 (by decide) (by decide) rfl (by decide) ?_
              refine x_aload_n dX12_count_70 0 rfl ?_
              refine x_aload_n dX12_count_71 0 rfl ?_
              refine y_geti fl_RX12_160 dX12_count_72 rfl k0 ?_
              refine xbnd_e h (fun q2 e2 h => ?_)
              refine y_callVi (As := [.int (D.1 v0 14)]) (q := q2) cv_RX12_338 dX12_count_75 k0 rfl (Nat.le_of_ble_eq_true rfl) (by omega) (S_X12_depth hS P k0 e2) ?_
              obtain rfl := Option.some.inj h
              exact y_iret rfl dX12_count_78
            · rw [if_neg c5] at h
              refine x_tsOut 79 dX12_count_1 (by have := lv_neT c0 (a := 0) (by decide); have := lv_neT c1 (a := 1) (by decide); have := lv_neT c2 (a := 2) (by decide); have := lv_neT c3 (a := 3) (by decide); have := lv_neT c4 (a := 4) (by decide); have := lv_neT c5 (a := 5) (by decide); omega) (by decide) ?_
              refine x_iconst (-1) dX12_count_79 (by decide) ?_
              obtain rfl := Option.some.inj h
              exact y_iret rfl dX12_count_80

