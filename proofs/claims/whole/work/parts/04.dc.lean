theorem dX12_init_0 : decode cX12_init 0 = .ok (.aload_n 0, 1) := by decide +kernel
theorem dX12_init_1 : decode cX12_init 1 = .ok (.invokespecial 1, 3) := by decide +kernel
theorem dX12_init_4 : decode cX12_init 4 = .ok (.aload_n 0, 1) := by decide +kernel
theorem dX12_init_5 : decode cX12_init 5 = .ok (.iconst (-1), 1) := by decide +kernel
theorem dX12_init_6 : decode cX12_init 6 = .ok (.putfield 7, 3) := by decide +kernel
theorem dX12_init_9 : decode cX12_init 9 = .ok (.aload_n 0, 1) := by decide +kernel
theorem dX12_init_10 : decode cX12_init 10 = .ok (.sipush 16384, 3) := by decide +kernel
theorem dX12_init_13 : decode cX12_init 13 = .ok (.newarray .int, 2) := by decide +kernel
theorem dX12_init_15 : decode cX12_init 15 = .ok (.putfield 13, 3) := by decide +kernel
theorem dX12_init_18 : decode cX12_init 18 = .ok (.aload_n 0, 1) := by decide +kernel
theorem dX12_init_19 : decode cX12_init 19 = .ok (.sipush 1000, 3) := by decide +kernel
theorem dX12_init_22 : decode cX12_init 22 = .ok (.newarray .long, 2) := by decide +kernel
theorem dX12_init_24 : decode cX12_init 24 = .ok (.putfield 17, 3) := by decide +kernel
theorem dX12_init_27 : decode cX12_init 27 = .ok (.aload_n 0, 1) := by decide +kernel
theorem dX12_init_28 : decode cX12_init 28 = .ok (.sipush 1000, 3) := by decide +kernel
theorem dX12_init_31 : decode cX12_init 31 = .ok (.newarray .int, 2) := by decide +kernel
theorem dX12_init_33 : decode cX12_init 33 = .ok (.putfield 21, 3) := by decide +kernel
theorem dX12_init_36 : decode cX12_init 36 = .ok (.aload_n 0, 1) := by decide +kernel
theorem dX12_init_37 : decode cX12_init 37 = .ok (.sipush 1000, 3) := by decide +kernel
theorem dX12_init_40 : decode cX12_init 40 = .ok (.newarray .long, 2) := by decide +kernel
theorem dX12_init_42 : decode cX12_init 42 = .ok (.putfield 24, 3) := by decide +kernel
theorem dX12_init_45 : decode cX12_init 45 = .ok (.aload_n 0, 1) := by decide +kernel
theorem dX12_init_46 : decode cX12_init 46 = .ok (.sipush 1000, 3) := by decide +kernel
theorem dX12_init_49 : decode cX12_init 49 = .ok (.newarray .int, 2) := by decide +kernel
theorem dX12_init_51 : decode cX12_init 51 = .ok (.putfield 27, 3) := by decide +kernel
theorem dX12_init_54 : decode cX12_init 54 = .ok (.aload_n 0, 1) := by decide +kernel
theorem dX12_init_55 : decode cX12_init 55 = .ok (.sipush 1000, 3) := by decide +kernel
theorem dX12_init_58 : decode cX12_init 58 = .ok (.newarray .int, 2) := by decide +kernel
theorem dX12_init_60 : decode cX12_init 60 = .ok (.putfield 30, 3) := by decide +kernel
theorem dX12_init_63 : decode cX12_init 63 = .ok (.aload_n 0, 1) := by decide +kernel
theorem dX12_init_64 : decode cX12_init 64 = .ok (.sipush 4500, 3) := by decide +kernel
theorem dX12_init_67 : decode cX12_init 67 = .ok (.newarray .int, 2) := by decide +kernel
theorem dX12_init_69 : decode cX12_init 69 = .ok (.putfield 33, 3) := by decide +kernel
theorem dX12_init_72 : decode cX12_init 72 = .ok (.aload_n 0, 1) := by decide +kernel
theorem dX12_init_73 : decode cX12_init 73 = .ok (.sipush 4500, 3) := by decide +kernel
theorem dX12_init_76 : decode cX12_init 76 = .ok (.newarray .int, 2) := by decide +kernel
theorem dX12_init_78 : decode cX12_init 78 = .ok (.putfield 36, 3) := by decide +kernel
theorem dX12_init_81 : decode cX12_init 81 = .ok (.aload_n 0, 1) := by decide +kernel
theorem dX12_init_82 : decode cX12_init 82 = .ok (.sipush 4500, 3) := by decide +kernel
theorem dX12_init_85 : decode cX12_init 85 = .ok (.newarray .int, 2) := by decide +kernel
theorem dX12_init_87 : decode cX12_init 87 = .ok (.putfield 39, 3) := by decide +kernel
theorem dX12_init_90 : decode cX12_init 90 = .ok (.aload_n 0, 1) := by decide +kernel
theorem dX12_init_91 : decode cX12_init 91 = .ok (.sipush 4500, 3) := by decide +kernel
theorem dX12_init_94 : decode cX12_init 94 = .ok (.newarray .int, 2) := by decide +kernel
theorem dX12_init_96 : decode cX12_init 96 = .ok (.putfield 42, 3) := by decide +kernel
theorem dX12_init_99 : decode cX12_init 99 = .ok (.aload_n 0, 1) := by decide +kernel
theorem dX12_init_100 : decode cX12_init 100 = .ok (.ldc 45, 2) := by decide +kernel
theorem dX12_init_102 : decode cX12_init 102 = .ok (.newarray .int, 2) := by decide +kernel
theorem dX12_init_104 : decode cX12_init 104 = .ok (.putfield 46, 3) := by decide +kernel
theorem dX12_init_107 : decode cX12_init 107 = .ok (.aload_n 0, 1) := by decide +kernel
theorem dX12_init_108 : decode cX12_init 108 = .ok (.ldc 45, 2) := by decide +kernel
theorem dX12_init_110 : decode cX12_init 110 = .ok (.newarray .int, 2) := by decide +kernel
theorem dX12_init_112 : decode cX12_init 112 = .ok (.putfield 49, 3) := by decide +kernel
theorem dX12_init_115 : decode cX12_init 115 = .ok (.aload_n 0, 1) := by decide +kernel
theorem dX12_init_116 : decode cX12_init 116 = .ok (.bipush 9, 2) := by decide +kernel
theorem dX12_init_118 : decode cX12_init 118 = .ok (.newarray .long, 2) := by decide +kernel
theorem dX12_init_120 : decode cX12_init 120 = .ok (.putfield 52, 3) := by decide +kernel
theorem dX12_init_123 : decode cX12_init 123 = .ok (.aload_n 0, 1) := by decide +kernel
theorem dX12_init_124 : decode cX12_init 124 = .ok (.bipush 9, 2) := by decide +kernel
theorem dX12_init_126 : decode cX12_init 126 = .ok (.newarray .long, 2) := by decide +kernel
theorem dX12_init_128 : decode cX12_init 128 = .ok (.putfield 55, 3) := by decide +kernel
theorem dX12_init_131 : decode cX12_init 131 = .ok (.aload_n 0, 1) := by decide +kernel
theorem dX12_init_132 : decode cX12_init 132 = .ok (.bipush 9, 2) := by decide +kernel
theorem dX12_init_134 : decode cX12_init 134 = .ok (.newarray .int, 2) := by decide +kernel
theorem dX12_init_136 : decode cX12_init 136 = .ok (.putfield 58, 3) := by decide +kernel
theorem dX12_init_139 : decode cX12_init 139 = .ok (.aload_n 0, 1) := by decide +kernel
theorem dX12_init_140 : decode cX12_init 140 = .ok (.sipush 540, 3) := by decide +kernel
theorem dX12_init_143 : decode cX12_init 143 = .ok (.newarray .int, 2) := by decide +kernel
theorem dX12_init_145 : decode cX12_init 145 = .ok (.putfield 61, 3) := by decide +kernel
theorem dX12_init_148 : decode cX12_init 148 = .ok (.aload_n 0, 1) := by decide +kernel
theorem dX12_init_149 : decode cX12_init 149 = .ok (.sipush 540, 3) := by decide +kernel
theorem dX12_init_152 : decode cX12_init 152 = .ok (.newarray .int, 2) := by decide +kernel
theorem dX12_init_154 : decode cX12_init 154 = .ok (.putfield 64, 3) := by decide +kernel
theorem dX12_init_157 : decode cX12_init 157 = .ok (.aload_n 0, 1) := by decide +kernel
theorem dX12_init_158 : decode cX12_init 158 = .ok (.sipush 256, 3) := by decide +kernel
theorem dX12_init_161 : decode cX12_init 161 = .ok (.newarray .boolean, 2) := by decide +kernel
theorem dX12_init_163 : decode cX12_init 163 = .ok (.putfield 67, 3) := by decide +kernel
theorem dX12_init_166 : decode cX12_init 166 = .ok (.aload_n 0, 1) := by decide +kernel
theorem dX12_init_167 : decode cX12_init 167 = .ok (.ldc 71, 2) := by decide +kernel
theorem dX12_init_169 : decode cX12_init 169 = .ok (.newarray .int, 2) := by decide +kernel
theorem dX12_init_171 : decode cX12_init 171 = .ok (.putfield 72, 3) := by decide +kernel
theorem dX12_init_174 : decode cX12_init 174 = .ok (.aload_n 0, 1) := by decide +kernel
theorem dX12_init_175 : decode cX12_init 175 = .ok (.bipush 8, 2) := by decide +kernel
theorem dX12_init_177 : decode cX12_init 177 = .ok (.newarray .int, 2) := by decide +kernel
theorem dX12_init_179 : decode cX12_init 179 = .ok (.putfield 75, 3) := by decide +kernel
theorem dX12_init_182 : decode cX12_init 182 = .ok (.aload_n 0, 1) := by decide +kernel
theorem dX12_init_183 : decode cX12_init 183 = .ok (.bipush 8, 2) := by decide +kernel
theorem dX12_init_185 : decode cX12_init 185 = .ok (.newarray .int, 2) := by decide +kernel
theorem dX12_init_187 : decode cX12_init 187 = .ok (.putfield 78, 3) := by decide +kernel
theorem dX12_init_190 : decode cX12_init 190 = .ok (.aload_n 0, 1) := by decide +kernel
theorem dX12_init_191 : decode cX12_init 191 = .ok (.bipush 8, 2) := by decide +kernel
theorem dX12_init_193 : decode cX12_init 193 = .ok (.newarray .int, 2) := by decide +kernel
theorem dX12_init_195 : decode cX12_init 195 = .ok (.putfield 81, 3) := by decide +kernel
theorem dX12_init_198 : decode cX12_init 198 = .ok (.aload_n 0, 1) := by decide +kernel
theorem dX12_init_199 : decode cX12_init 199 = .ok (.bipush 64, 2) := by decide +kernel
theorem dX12_init_201 : decode cX12_init 201 = .ok (.newarray .boolean, 2) := by decide +kernel
theorem dX12_init_203 : decode cX12_init 203 = .ok (.putfield 84, 3) := by decide +kernel
theorem dX12_init_206 : decode cX12_init 206 = .ok (.aload_n 0, 1) := by decide +kernel
theorem dX12_init_207 : decode cX12_init 207 = .ok (.bipush 64, 2) := by decide +kernel
theorem dX12_init_209 : decode cX12_init 209 = .ok (.newarray .boolean, 2) := by decide +kernel
theorem dX12_init_211 : decode cX12_init 211 = .ok (.putfield 87, 3) := by decide +kernel
theorem dX12_init_214 : decode cX12_init 214 = .ok (.aload_n 0, 1) := by decide +kernel
theorem dX12_init_215 : decode cX12_init 215 = .ok (.bipush 64, 2) := by decide +kernel
theorem dX12_init_217 : decode cX12_init 217 = .ok (.newarray .int, 2) := by decide +kernel
theorem dX12_init_219 : decode cX12_init 219 = .ok (.putfield 90, 3) := by decide +kernel
theorem dX12_init_222 : decode cX12_init 222 = .ok (.aload_n 0, 1) := by decide +kernel
theorem dX12_init_223 : decode cX12_init 223 = .ok (.aload_n 0, 1) := by decide +kernel
theorem dX12_init_224 : decode cX12_init 224 = .ok (.getfield 13, 3) := by decide +kernel
theorem dX12_init_227 : decode cX12_init 227 = .ok (.putfield 93, 3) := by decide +kernel
theorem dX12_init_230 : decode cX12_init 230 = .ok (.aload_n 0, 1) := by decide +kernel
theorem dX12_init_231 : decode cX12_init 231 = .ok (.ldc 96, 2) := by decide +kernel
theorem dX12_init_233 : decode cX12_init 233 = .ok (.newarray .int, 2) := by decide +kernel
theorem dX12_init_235 : decode cX12_init 235 = .ok (.putfield 97, 3) := by decide +kernel
theorem dX12_init_238 : decode cX12_init 238 = .ok (.aload_n 0, 1) := by decide +kernel
theorem dX12_init_239 : decode cX12_init 239 = .ok (.ldc 96, 2) := by decide +kernel
theorem dX12_init_241 : decode cX12_init 241 = .ok (.newarray .int, 2) := by decide +kernel
theorem dX12_init_243 : decode cX12_init 243 = .ok (.putfield 100, 3) := by decide +kernel
theorem dX12_init_246 : decode cX12_init 246 = .ok (.aload_n 0, 1) := by decide +kernel
theorem dX12_init_247 : decode cX12_init 247 = .ok (.ldc 96, 2) := by decide +kernel
theorem dX12_init_249 : decode cX12_init 249 = .ok (.newarray .int, 2) := by decide +kernel
theorem dX12_init_251 : decode cX12_init 251 = .ok (.putfield 103, 3) := by decide +kernel
theorem dX12_init_254 : decode cX12_init 254 = .ok (.aload_n 0, 1) := by decide +kernel
theorem dX12_init_255 : decode cX12_init 255 = .ok (.ldc 96, 2) := by decide +kernel
theorem dX12_init_257 : decode cX12_init 257 = .ok (.newarray .int, 2) := by decide +kernel
theorem dX12_init_259 : decode cX12_init 259 = .ok (.putfield 106, 3) := by decide +kernel
theorem dX12_init_262 : decode cX12_init 262 = .ok (.aload_n 0, 1) := by decide +kernel
theorem dX12_init_263 : decode cX12_init 263 = .ok (.ldc 96, 2) := by decide +kernel
theorem dX12_init_265 : decode cX12_init 265 = .ok (.newarray .int, 2) := by decide +kernel
theorem dX12_init_267 : decode cX12_init 267 = .ok (.putfield 109, 3) := by decide +kernel
theorem dX12_init_270 : decode cX12_init 270 = .ok (.aload_n 0, 1) := by decide +kernel
theorem dX12_init_271 : decode cX12_init 271 = .ok (.ldc 96, 2) := by decide +kernel
theorem dX12_init_273 : decode cX12_init 273 = .ok (.newarray .boolean, 2) := by decide +kernel
theorem dX12_init_275 : decode cX12_init 275 = .ok (.putfield 112, 3) := by decide +kernel
theorem dX12_init_278 : decode cX12_init 278 = .ok (.aload_n 0, 1) := by decide +kernel
theorem dX12_init_279 : decode cX12_init 279 = .ok (.sipush 4096, 3) := by decide +kernel
theorem dX12_init_282 : decode cX12_init 282 = .ok (.newarray .int, 2) := by decide +kernel
theorem dX12_init_284 : decode cX12_init 284 = .ok (.putfield 115, 3) := by decide +kernel
theorem dX12_init_287 : decode cX12_init 287 = .ok (.aload_n 0, 1) := by decide +kernel
theorem dX12_init_288 : decode cX12_init 288 = .ok (.ldc 96, 2) := by decide +kernel
theorem dX12_init_290 : decode cX12_init 290 = .ok (.newarray .int, 2) := by decide +kernel
theorem dX12_init_292 : decode cX12_init 292 = .ok (.putfield 118, 3) := by decide +kernel
theorem dX12_init_295 : decode cX12_init 295 = .ok (.aload_n 0, 1) := by decide +kernel
theorem dX12_init_296 : decode cX12_init 296 = .ok (.sipush 4500, 3) := by decide +kernel
theorem dX12_init_299 : decode cX12_init 299 = .ok (.newarray .int, 2) := by decide +kernel
theorem dX12_init_301 : decode cX12_init 301 = .ok (.putfield 121, 3) := by decide +kernel
theorem dX12_init_304 : decode cX12_init 304 = .ok (.aload_n 0, 1) := by decide +kernel
theorem dX12_init_305 : decode cX12_init 305 = .ok (.sipush 4500, 3) := by decide +kernel
theorem dX12_init_308 : decode cX12_init 308 = .ok (.newarray .int, 2) := by decide +kernel
theorem dX12_init_310 : decode cX12_init 310 = .ok (.putfield 124, 3) := by decide +kernel
theorem dX12_init_313 : decode cX12_init 313 = .ok (.aload_n 0, 1) := by decide +kernel
theorem dX12_init_314 : decode cX12_init 314 = .ok (.bipush 60, 2) := by decide +kernel
theorem dX12_init_316 : decode cX12_init 316 = .ok (.newarray .int, 2) := by decide +kernel
theorem dX12_init_318 : decode cX12_init 318 = .ok (.putfield 127, 3) := by decide +kernel
theorem dX12_init_321 : decode cX12_init 321 = .ok (.aload_n 0, 1) := by decide +kernel
theorem dX12_init_322 : decode cX12_init 322 = .ok (.bipush 60, 2) := by decide +kernel
theorem dX12_init_324 : decode cX12_init 324 = .ok (.newarray .int, 2) := by decide +kernel
theorem dX12_init_326 : decode cX12_init 326 = .ok (.putfield 130, 3) := by decide +kernel
theorem dX12_init_329 : decode cX12_init 329 = .ok (.aload_n 0, 1) := by decide +kernel
theorem dX12_init_330 : decode cX12_init 330 = .ok (.bipush 78, 2) := by decide +kernel
theorem dX12_init_332 : decode cX12_init 332 = .ok (.newarray .int, 2) := by decide +kernel
theorem dX12_init_334 : decode cX12_init 334 = .ok (.putfield 133, 3) := by decide +kernel
theorem dX12_init_337 : decode cX12_init 337 = .ok (.aload_n 0, 1) := by decide +kernel
theorem dX12_init_338 : decode cX12_init 338 = .ok (.iload_n 1, 1) := by decide +kernel
theorem dX12_init_339 : decode cX12_init 339 = .ok (.iconst 1, 1) := by decide +kernel
theorem dX12_init_340 : decode cX12_init 340 = .ok (.if_icmp .ge 7, 3) := by decide +kernel
theorem dX12_init_343 : decode cX12_init 343 = .ok (.iconst 1, 1) := by decide +kernel
theorem dX12_init_344 : decode cX12_init 344 = .ok (.goto 15, 3) := by decide +kernel
theorem dX12_init_347 : decode cX12_init 347 = .ok (.iload_n 1, 1) := by decide +kernel
theorem dX12_init_348 : decode cX12_init 348 = .ok (.bipush 8, 2) := by decide +kernel
theorem dX12_init_350 : decode cX12_init 350 = .ok (.if_icmp .le 8, 3) := by decide +kernel
theorem dX12_init_353 : decode cX12_init 353 = .ok (.bipush 8, 2) := by decide +kernel
theorem dX12_init_355 : decode cX12_init 355 = .ok (.goto 4, 3) := by decide +kernel
theorem dX12_init_358 : decode cX12_init 358 = .ok (.iload_n 1, 1) := by decide +kernel
theorem dX12_init_359 : decode cX12_init 359 = .ok (.putfield 136, 3) := by decide +kernel
theorem dX12_init_362 : decode cX12_init 362 = .ok (.aload_n 0, 1) := by decide +kernel
theorem dX12_init_363 : decode cX12_init 363 = .ok (.iload_n 2, 1) := by decide +kernel
theorem dX12_init_364 : decode cX12_init 364 = .ok (.iconst 1, 1) := by decide +kernel
theorem dX12_init_365 : decode cX12_init 365 = .ok (.if_icmp .ge 7, 3) := by decide +kernel
theorem dX12_init_368 : decode cX12_init 368 = .ok (.iconst 1, 1) := by decide +kernel
theorem dX12_init_369 : decode cX12_init 369 = .ok (.goto 15, 3) := by decide +kernel
theorem dX12_init_372 : decode cX12_init 372 = .ok (.iload_n 2, 1) := by decide +kernel
theorem dX12_init_373 : decode cX12_init 373 = .ok (.bipush 16, 2) := by decide +kernel
theorem dX12_init_375 : decode cX12_init 375 = .ok (.if_icmp .le 8, 3) := by decide +kernel
theorem dX12_init_378 : decode cX12_init 378 = .ok (.bipush 16, 2) := by decide +kernel
theorem dX12_init_380 : decode cX12_init 380 = .ok (.goto 4, 3) := by decide +kernel
theorem dX12_init_383 : decode cX12_init 383 = .ok (.iload_n 2, 1) := by decide +kernel
theorem dX12_init_384 : decode cX12_init 384 = .ok (.putfield 139, 3) := by decide +kernel
theorem dX12_init_387 : decode cX12_init 387 = .ok (.aload_n 0, 1) := by decide +kernel
theorem dX12_init_388 : decode cX12_init 388 = .ok (.iload_n 3, 1) := by decide +kernel
theorem dX12_init_389 : decode cX12_init 389 = .ok (.bipush 32, 2) := by decide +kernel
theorem dX12_init_391 : decode cX12_init 391 = .ok (.if_icmp .ge 8, 3) := by decide +kernel
theorem dX12_init_394 : decode cX12_init 394 = .ok (.bipush 32, 2) := by decide +kernel
theorem dX12_init_396 : decode cX12_init 396 = .ok (.goto 17, 3) := by decide +kernel
theorem dX12_init_399 : decode cX12_init 399 = .ok (.iload_n 3, 1) := by decide +kernel
theorem dX12_init_400 : decode cX12_init 400 = .ok (.sipush 256, 3) := by decide +kernel
theorem dX12_init_403 : decode cX12_init 403 = .ok (.if_icmp .le 9, 3) := by decide +kernel
theorem dX12_init_406 : decode cX12_init 406 = .ok (.sipush 256, 3) := by decide +kernel
theorem dX12_init_409 : decode cX12_init 409 = .ok (.goto 4, 3) := by decide +kernel
theorem dX12_init_412 : decode cX12_init 412 = .ok (.iload_n 3, 1) := by decide +kernel
theorem dX12_init_413 : decode cX12_init 413 = .ok (.putfield 142, 3) := by decide +kernel
theorem dX12_init_416 : decode cX12_init 416 = .ok (.return_, 1) := by decide +kernel
theorem dX12_thrown_0 : decode cX12_thrown 0 = .ok (.aload_n 0, 1) := by decide +kernel
theorem dX12_thrown_1 : decode cX12_thrown 1 = .ok (.getfield 145, 3) := by decide +kernel
theorem dX12_thrown_4 : decode cX12_thrown 4 = .ok (.ireturn, 1) := by decide +kernel
theorem dX12_put_0 : decode cX12_put 0 = .ok (.iload_n 3, 1) := by decide +kernel
theorem dX12_put_1 : decode cX12_put 1 = .ok (.iconst 1, 1) := by decide +kernel
theorem dX12_put_2 : decode cX12_put 2 = .ok (.isub, 1) := by decide +kernel
theorem dX12_put_3 : decode cX12_put 3 = .ok (.istore 4, 2) := by decide +kernel
theorem dX12_put_5 : decode cX12_put 5 = .ok (.iload 4, 2) := by decide +kernel
theorem dX12_put_7 : decode cX12_put 7 = .ok (.ifCond .lt 40, 3) := by decide +kernel
theorem dX12_put_10 : decode cX12_put 10 = .ok (.aload_n 0, 1) := by decide +kernel
theorem dX12_put_11 : decode cX12_put 11 = .ok (.getfield 13, 3) := by decide +kernel
theorem dX12_put_14 : decode cX12_put 14 = .ok (.aload_n 0, 1) := by decide +kernel
theorem dX12_put_15 : decode cX12_put 15 = .ok (.getfield 148, 3) := by decide +kernel
theorem dX12_put_18 : decode cX12_put 18 = .ok (.lload_n 1, 1) := by decide +kernel
theorem dX12_put_19 : decode cX12_put 19 = .ok (.bipush 8, 2) := by decide +kernel
theorem dX12_put_21 : decode cX12_put 21 = .ok (.iload 4, 2) := by decide +kernel
theorem dX12_put_23 : decode cX12_put 23 = .ok (.imul, 1) := by decide +kernel
theorem dX12_put_24 : decode cX12_put 24 = .ok (.lshr, 1) := by decide +kernel
theorem dX12_put_25 : decode cX12_put 25 = .ok (.l2i, 1) := by decide +kernel
theorem dX12_put_26 : decode cX12_put 26 = .ok (.sipush 255, 3) := by decide +kernel
theorem dX12_put_29 : decode cX12_put 29 = .ok (.iand, 1) := by decide +kernel
theorem dX12_put_30 : decode cX12_put 30 = .ok (.iastore, 1) := by decide +kernel
theorem dX12_put_31 : decode cX12_put 31 = .ok (.aload_n 0, 1) := by decide +kernel
theorem dX12_put_32 : decode cX12_put 32 = .ok (.dup, 1) := by decide +kernel
theorem dX12_put_33 : decode cX12_put 33 = .ok (.getfield 148, 3) := by decide +kernel
theorem dX12_put_36 : decode cX12_put 36 = .ok (.iconst 1, 1) := by decide +kernel
theorem dX12_put_37 : decode cX12_put 37 = .ok (.iadd, 1) := by decide +kernel
theorem dX12_put_38 : decode cX12_put 38 = .ok (.putfield 148, 3) := by decide +kernel
theorem dX12_put_41 : decode cX12_put 41 = .ok (.iinc 4 (-1), 3) := by decide +kernel
theorem dX12_put_44 : decode cX12_put 44 = .ok (.goto (-39), 3) := by decide +kernel
theorem dX12_put_47 : decode cX12_put 47 = .ok (.return_, 1) := by decide +kernel
theorem dX12_feed_0 : decode cX12_feed 0 = .ok (.aload_n 0, 1) := by decide +kernel
theorem dX12_feed_1 : decode cX12_feed 1 = .ok (.aload_n 0, 1) := by decide +kernel
theorem dX12_feed_2 : decode cX12_feed 2 = .ok (.getfield 148, 3) := by decide +kernel
theorem dX12_feed_5 : decode cX12_feed 5 = .ok (.bipush 20, 2) := by decide +kernel
theorem dX12_feed_7 : decode cX12_feed 7 = .ok (.iadd, 1) := by decide +kernel
theorem dX12_feed_8 : decode cX12_feed 8 = .ok (.sipush 16384, 3) := by decide +kernel
theorem dX12_feed_11 : decode cX12_feed 11 = .ok (.if_icmp .le 7, 3) := by decide +kernel
theorem dX12_feed_14 : decode cX12_feed 14 = .ok (.iconst 1, 1) := by decide +kernel
theorem dX12_feed_15 : decode cX12_feed 15 = .ok (.goto 4, 3) := by decide +kernel
theorem dX12_feed_18 : decode cX12_feed 18 = .ok (.iconst 0, 1) := by decide +kernel
theorem dX12_feed_19 : decode cX12_feed 19 = .ok (.putfield 145, 3) := by decide +kernel
theorem dX12_feed_22 : decode cX12_feed 22 = .ok (.aload_n 0, 1) := by decide +kernel
theorem dX12_feed_23 : decode cX12_feed 23 = .ok (.getfield 145, 3) := by decide +kernel
theorem dX12_feed_26 : decode cX12_feed 26 = .ok (.ifCond .le 5, 3) := by decide +kernel
theorem dX12_feed_29 : decode cX12_feed 29 = .ok (.iconst 0, 1) := by decide +kernel
theorem dX12_feed_30 : decode cX12_feed 30 = .ok (.ireturn, 1) := by decide +kernel
theorem dX12_feed_31 : decode cX12_feed 31 = .ok (.aload_n 0, 1) := by decide +kernel
theorem dX12_feed_32 : decode cX12_feed 32 = .ok (.iload_n 1, 1) := by decide +kernel
theorem dX12_feed_33 : decode cX12_feed 33 = .ok (.i2l, 1) := by decide +kernel
theorem dX12_feed_34 : decode cX12_feed 34 = .ok (.iconst 4, 1) := by decide +kernel
theorem dX12_feed_35 : decode cX12_feed 35 = .ok (.invokevirtual 151, 3) := by decide +kernel
theorem dX12_feed_38 : decode cX12_feed 38 = .ok (.aload_n 0, 1) := by decide +kernel
theorem dX12_feed_39 : decode cX12_feed 39 = .ok (.iload_n 2, 1) := by decide +kernel
theorem dX12_feed_40 : decode cX12_feed 40 = .ok (.i2l, 1) := by decide +kernel
theorem dX12_feed_41 : decode cX12_feed 41 = .ok (.iconst 4, 1) := by decide +kernel
theorem dX12_feed_42 : decode cX12_feed 42 = .ok (.invokevirtual 151, 3) := by decide +kernel
theorem dX12_feed_45 : decode cX12_feed 45 = .ok (.aload_n 0, 1) := by decide +kernel
theorem dX12_feed_46 : decode cX12_feed 46 = .ok (.iload_n 3, 1) := by decide +kernel
theorem dX12_feed_47 : decode cX12_feed 47 = .ok (.i2l, 1) := by decide +kernel
theorem dX12_feed_48 : decode cX12_feed 48 = .ok (.iconst 4, 1) := by decide +kernel
theorem dX12_feed_49 : decode cX12_feed 49 = .ok (.invokevirtual 151, 3) := by decide +kernel
theorem dX12_feed_52 : decode cX12_feed 52 = .ok (.aload_n 0, 1) := by decide +kernel
theorem dX12_feed_53 : decode cX12_feed 53 = .ok (.iload 4, 2) := by decide +kernel
theorem dX12_feed_55 : decode cX12_feed 55 = .ok (.i2l, 1) := by decide +kernel
theorem dX12_feed_56 : decode cX12_feed 56 = .ok (.iconst 4, 1) := by decide +kernel
theorem dX12_feed_57 : decode cX12_feed 57 = .ok (.invokevirtual 151, 3) := by decide +kernel
theorem dX12_feed_60 : decode cX12_feed 60 = .ok (.aload_n 0, 1) := by decide +kernel
theorem dX12_feed_61 : decode cX12_feed 61 = .ok (.iload 5, 2) := by decide +kernel
theorem dX12_feed_63 : decode cX12_feed 63 = .ok (.i2l, 1) := by decide +kernel
theorem dX12_feed_64 : decode cX12_feed 64 = .ok (.iconst 4, 1) := by decide +kernel
theorem dX12_feed_65 : decode cX12_feed 65 = .ok (.invokevirtual 151, 3) := by decide +kernel
theorem dX12_feed_68 : decode cX12_feed 68 = .ok (.aload_n 0, 1) := by decide +kernel
theorem dX12_feed_69 : decode cX12_feed 69 = .ok (.getfield 148, 3) := by decide +kernel
theorem dX12_feed_72 : decode cX12_feed 72 = .ok (.ireturn, 1) := by decide +kernel
theorem dX12_trim_0 : decode cX12_trim 0 = .ok (.aload_n 0, 1) := by decide +kernel
theorem dX12_trim_1 : decode cX12_trim 1 = .ok (.iload_n 1, 1) := by decide +kernel
theorem dX12_trim_2 : decode cX12_trim 2 = .ok (.ifCond .lt 11, 3) := by decide +kernel
theorem dX12_trim_5 : decode cX12_trim 5 = .ok (.iload_n 1, 1) := by decide +kernel
theorem dX12_trim_6 : decode cX12_trim 6 = .ok (.aload_n 0, 1) := by decide +kernel
theorem dX12_trim_7 : decode cX12_trim 7 = .ok (.getfield 148, 3) := by decide +kernel
theorem dX12_trim_10 : decode cX12_trim 10 = .ok (.if_icmp .le 7, 3) := by decide +kernel
theorem dX12_trim_13 : decode cX12_trim 13 = .ok (.iconst 1, 1) := by decide +kernel
theorem dX12_trim_14 : decode cX12_trim 14 = .ok (.goto 4, 3) := by decide +kernel
theorem dX12_trim_17 : decode cX12_trim 17 = .ok (.iconst 0, 1) := by decide +kernel
theorem dX12_trim_18 : decode cX12_trim 18 = .ok (.putfield 145, 3) := by decide +kernel
theorem dX12_trim_21 : decode cX12_trim 21 = .ok (.aload_n 0, 1) := by decide +kernel
theorem dX12_trim_22 : decode cX12_trim 22 = .ok (.getfield 145, 3) := by decide +kernel
theorem dX12_trim_25 : decode cX12_trim 25 = .ok (.ifCond .le 5, 3) := by decide +kernel
theorem dX12_trim_28 : decode cX12_trim 28 = .ok (.iconst 0, 1) := by decide +kernel
theorem dX12_trim_29 : decode cX12_trim 29 = .ok (.ireturn, 1) := by decide +kernel
theorem dX12_trim_30 : decode cX12_trim 30 = .ok (.aload_n 0, 1) := by decide +kernel
theorem dX12_trim_31 : decode cX12_trim 31 = .ok (.dup, 1) := by decide +kernel
theorem dX12_trim_32 : decode cX12_trim 32 = .ok (.getfield 148, 3) := by decide +kernel
theorem dX12_trim_35 : decode cX12_trim 35 = .ok (.iload_n 1, 1) := by decide +kernel
theorem dX12_trim_36 : decode cX12_trim 36 = .ok (.isub, 1) := by decide +kernel
theorem dX12_trim_37 : decode cX12_trim 37 = .ok (.putfield 148, 3) := by decide +kernel
theorem dX12_trim_40 : decode cX12_trim 40 = .ok (.aload_n 0, 1) := by decide +kernel
theorem dX12_trim_41 : decode cX12_trim 41 = .ok (.getfield 148, 3) := by decide +kernel
theorem dX12_trim_44 : decode cX12_trim 44 = .ok (.ireturn, 1) := by decide +kernel
theorem dX12_spoil_0 : decode cX12_spoil 0 = .ok (.aload_n 0, 1) := by decide +kernel
theorem dX12_spoil_1 : decode cX12_spoil 1 = .ok (.iload_n 1, 1) := by decide +kernel
theorem dX12_spoil_2 : decode cX12_spoil 2 = .ok (.ifCond .lt 22, 3) := by decide +kernel
theorem dX12_spoil_5 : decode cX12_spoil 5 = .ok (.iload_n 1, 1) := by decide +kernel
theorem dX12_spoil_6 : decode cX12_spoil 6 = .ok (.aload_n 0, 1) := by decide +kernel
theorem dX12_spoil_7 : decode cX12_spoil 7 = .ok (.getfield 148, 3) := by decide +kernel
theorem dX12_spoil_10 : decode cX12_spoil 10 = .ok (.if_icmp .ge 14, 3) := by decide +kernel
theorem dX12_spoil_13 : decode cX12_spoil 13 = .ok (.iload_n 2, 1) := by decide +kernel
theorem dX12_spoil_14 : decode cX12_spoil 14 = .ok (.ifCond .lt 10, 3) := by decide +kernel
theorem dX12_spoil_17 : decode cX12_spoil 17 = .ok (.iload_n 2, 1) := by decide +kernel
theorem dX12_spoil_18 : decode cX12_spoil 18 = .ok (.sipush 255, 3) := by decide +kernel
theorem dX12_spoil_21 : decode cX12_spoil 21 = .ok (.if_icmp .le 7, 3) := by decide +kernel
theorem dX12_spoil_24 : decode cX12_spoil 24 = .ok (.iconst 1, 1) := by decide +kernel
theorem dX12_spoil_25 : decode cX12_spoil 25 = .ok (.goto 4, 3) := by decide +kernel
theorem dX12_spoil_28 : decode cX12_spoil 28 = .ok (.iconst 0, 1) := by decide +kernel
theorem dX12_spoil_29 : decode cX12_spoil 29 = .ok (.putfield 145, 3) := by decide +kernel
theorem dX12_spoil_32 : decode cX12_spoil 32 = .ok (.aload_n 0, 1) := by decide +kernel
theorem dX12_spoil_33 : decode cX12_spoil 33 = .ok (.getfield 145, 3) := by decide +kernel
theorem dX12_spoil_36 : decode cX12_spoil 36 = .ok (.ifCond .le 5, 3) := by decide +kernel
theorem dX12_spoil_39 : decode cX12_spoil 39 = .ok (.iconst 0, 1) := by decide +kernel
theorem dX12_spoil_40 : decode cX12_spoil 40 = .ok (.ireturn, 1) := by decide +kernel
theorem dX12_spoil_41 : decode cX12_spoil 41 = .ok (.aload_n 0, 1) := by decide +kernel
theorem dX12_spoil_42 : decode cX12_spoil 42 = .ok (.getfield 13, 3) := by decide +kernel
theorem dX12_spoil_45 : decode cX12_spoil 45 = .ok (.iload_n 1, 1) := by decide +kernel
theorem dX12_spoil_46 : decode cX12_spoil 46 = .ok (.dup2, 1) := by decide +kernel
theorem dX12_spoil_47 : decode cX12_spoil 47 = .ok (.iaload, 1) := by decide +kernel
theorem dX12_spoil_48 : decode cX12_spoil 48 = .ok (.iload_n 2, 1) := by decide +kernel
theorem dX12_spoil_49 : decode cX12_spoil 49 = .ok (.ixor, 1) := by decide +kernel
theorem dX12_spoil_50 : decode cX12_spoil 50 = .ok (.iastore, 1) := by decide +kernel
theorem dX12_spoil_51 : decode cX12_spoil 51 = .ok (.aload_n 0, 1) := by decide +kernel
theorem dX12_spoil_52 : decode cX12_spoil 52 = .ok (.getfield 13, 3) := by decide +kernel
theorem dX12_spoil_55 : decode cX12_spoil 55 = .ok (.iload_n 1, 1) := by decide +kernel
theorem dX12_spoil_56 : decode cX12_spoil 56 = .ok (.iaload, 1) := by decide +kernel
theorem dX12_spoil_57 : decode cX12_spoil 57 = .ok (.ireturn, 1) := by decide +kernel
theorem dX12_sum_0 : decode cX12_sum 0 = .ok (.ldc2_w 155, 3) := by decide +kernel
theorem dX12_sum_3 : decode cX12_sum 3 = .ok (.lstore_n 3, 1) := by decide +kernel
theorem dX12_sum_4 : decode cX12_sum 4 = .ok (.iload_n 1, 1) := by decide +kernel
theorem dX12_sum_5 : decode cX12_sum 5 = .ok (.istore 5, 2) := by decide +kernel
theorem dX12_sum_7 : decode cX12_sum 7 = .ok (.iload 5, 2) := by decide +kernel
theorem dX12_sum_9 : decode cX12_sum 9 = .ok (.iload_n 2, 1) := by decide +kernel
theorem dX12_sum_10 : decode cX12_sum 10 = .ok (.if_icmp .ge 67, 3) := by decide +kernel
theorem dX12_sum_13 : decode cX12_sum 13 = .ok (.lload_n 3, 1) := by decide +kernel
theorem dX12_sum_14 : decode cX12_sum 14 = .ok (.aload_n 0, 1) := by decide +kernel
theorem dX12_sum_15 : decode cX12_sum 15 = .ok (.iload 5, 2) := by decide +kernel
theorem dX12_sum_17 : decode cX12_sum 17 = .ok (.iaload, 1) := by decide +kernel
theorem dX12_sum_18 : decode cX12_sum 18 = .ok (.i2l, 1) := by decide +kernel
theorem dX12_sum_19 : decode cX12_sum 19 = .ok (.lxor, 1) := by decide +kernel
theorem dX12_sum_20 : decode cX12_sum 20 = .ok (.lstore_n 3, 1) := by decide +kernel
theorem dX12_sum_21 : decode cX12_sum 21 = .ok (.iconst 0, 1) := by decide +kernel
theorem dX12_sum_22 : decode cX12_sum 22 = .ok (.istore 6, 2) := by decide +kernel
theorem dX12_sum_24 : decode cX12_sum 24 = .ok (.iload 6, 2) := by decide +kernel
theorem dX12_sum_26 : decode cX12_sum 26 = .ok (.bipush 8, 2) := by decide +kernel
theorem dX12_sum_28 : decode cX12_sum 28 = .ok (.if_icmp .ge 43, 3) := by decide +kernel
theorem dX12_sum_31 : decode cX12_sum 31 = .ok (.lload_n 3, 1) := by decide +kernel
theorem dX12_sum_32 : decode cX12_sum 32 = .ok (.lconst 1, 1) := by decide +kernel
theorem dX12_sum_33 : decode cX12_sum 33 = .ok (.land, 1) := by decide +kernel
theorem dX12_sum_34 : decode cX12_sum 34 = .ok (.lconst 1, 1) := by decide +kernel
theorem dX12_sum_35 : decode cX12_sum 35 = .ok (.lcmp, 1) := by decide +kernel
theorem dX12_sum_36 : decode cX12_sum 36 = .ok (.ifCond .ne 7, 3) := by decide +kernel
theorem dX12_sum_39 : decode cX12_sum 39 = .ok (.iconst 1, 1) := by decide +kernel
theorem dX12_sum_40 : decode cX12_sum 40 = .ok (.goto 4, 3) := by decide +kernel
theorem dX12_sum_43 : decode cX12_sum 43 = .ok (.iconst 0, 1) := by decide +kernel
theorem dX12_sum_44 : decode cX12_sum 44 = .ok (.istore 7, 2) := by decide +kernel
theorem dX12_sum_46 : decode cX12_sum 46 = .ok (.lload_n 3, 1) := by decide +kernel
theorem dX12_sum_47 : decode cX12_sum 47 = .ok (.iconst 1, 1) := by decide +kernel
theorem dX12_sum_48 : decode cX12_sum 48 = .ok (.lshr, 1) := by decide +kernel
theorem dX12_sum_49 : decode cX12_sum 49 = .ok (.lstore_n 3, 1) := by decide +kernel
theorem dX12_sum_50 : decode cX12_sum 50 = .ok (.lload_n 3, 1) := by decide +kernel
theorem dX12_sum_51 : decode cX12_sum 51 = .ok (.iload 7, 2) := by decide +kernel
theorem dX12_sum_53 : decode cX12_sum 53 = .ok (.ifCond .eq 9, 3) := by decide +kernel
theorem dX12_sum_56 : decode cX12_sum 56 = .ok (.ldc2_w 157, 3) := by decide +kernel
theorem dX12_sum_59 : decode cX12_sum 59 = .ok (.goto 4, 3) := by decide +kernel
theorem dX12_sum_62 : decode cX12_sum 62 = .ok (.lconst 0, 1) := by decide +kernel
theorem dX12_sum_63 : decode cX12_sum 63 = .ok (.lxor, 1) := by decide +kernel
theorem dX12_sum_64 : decode cX12_sum 64 = .ok (.lstore_n 3, 1) := by decide +kernel
theorem dX12_sum_65 : decode cX12_sum 65 = .ok (.iinc 6 1, 3) := by decide +kernel
theorem dX12_sum_68 : decode cX12_sum 68 = .ok (.goto (-44), 3) := by decide +kernel
theorem dX12_sum_71 : decode cX12_sum 71 = .ok (.iinc 5 1, 3) := by decide +kernel
theorem dX12_sum_74 : decode cX12_sum 74 = .ok (.goto (-67), 3) := by decide +kernel
theorem dX12_sum_77 : decode cX12_sum 77 = .ok (.lload_n 3, 1) := by decide +kernel
theorem dX12_sum_78 : decode cX12_sum 78 = .ok (.ldc2_w 155, 3) := by decide +kernel
theorem dX12_sum_81 : decode cX12_sum 81 = .ok (.lxor, 1) := by decide +kernel
theorem dX12_sum_82 : decode cX12_sum 82 = .ok (.lreturn, 1) := by decide +kernel
theorem dX12_set_0 : decode cX12_set 0 = .ok (.iconst 0, 1) := by decide +kernel
theorem dX12_set_1 : decode cX12_set 1 = .ok (.istore 5, 2) := by decide +kernel
theorem dX12_set_3 : decode cX12_set 3 = .ok (.iload 5, 2) := by decide +kernel
theorem dX12_set_5 : decode cX12_set 5 = .ok (.iload 4, 2) := by decide +kernel
theorem dX12_set_7 : decode cX12_set 7 = .ok (.if_icmp .ge 32, 3) := by decide +kernel
theorem dX12_set_10 : decode cX12_set 10 = .ok (.aload_n 0, 1) := by decide +kernel
theorem dX12_set_11 : decode cX12_set 11 = .ok (.iload_n 1, 1) := by decide +kernel
theorem dX12_set_12 : decode cX12_set 12 = .ok (.iload 5, 2) := by decide +kernel
theorem dX12_set_14 : decode cX12_set 14 = .ok (.iadd, 1) := by decide +kernel
theorem dX12_set_15 : decode cX12_set 15 = .ok (.lload_n 2, 1) := by decide +kernel
theorem dX12_set_16 : decode cX12_set 16 = .ok (.bipush 8, 2) := by decide +kernel
theorem dX12_set_18 : decode cX12_set 18 = .ok (.iload 4, 2) := by decide +kernel
theorem dX12_set_20 : decode cX12_set 20 = .ok (.iconst 1, 1) := by decide +kernel
theorem dX12_set_21 : decode cX12_set 21 = .ok (.isub, 1) := by decide +kernel
theorem dX12_set_22 : decode cX12_set 22 = .ok (.iload 5, 2) := by decide +kernel
theorem dX12_set_24 : decode cX12_set 24 = .ok (.isub, 1) := by decide +kernel
theorem dX12_set_25 : decode cX12_set 25 = .ok (.imul, 1) := by decide +kernel
theorem dX12_set_26 : decode cX12_set 26 = .ok (.lshr, 1) := by decide +kernel
theorem dX12_set_27 : decode cX12_set 27 = .ok (.l2i, 1) := by decide +kernel
theorem dX12_set_28 : decode cX12_set 28 = .ok (.sipush 255, 3) := by decide +kernel
theorem dX12_set_31 : decode cX12_set 31 = .ok (.iand, 1) := by decide +kernel
theorem dX12_set_32 : decode cX12_set 32 = .ok (.iastore, 1) := by decide +kernel
theorem dX12_set_33 : decode cX12_set 33 = .ok (.iinc 5 1, 3) := by decide +kernel
theorem dX12_set_36 : decode cX12_set 36 = .ok (.goto (-33), 3) := by decide +kernel
theorem dX12_set_39 : decode cX12_set 39 = .ok (.return_, 1) := by decide +kernel
theorem dX12_width_0 : decode cX12_width 0 = .ok (.lload_n 0, 1) := by decide +kernel
theorem dX12_width_1 : decode cX12_width 1 = .ok (.lconst 0, 1) := by decide +kernel
theorem dX12_width_2 : decode cX12_width 2 = .ok (.lcmp, 1) := by decide +kernel
theorem dX12_width_3 : decode cX12_width 3 = .ok (.ifCond .ge 13, 3) := by decide +kernel
theorem dX12_width_6 : decode cX12_width 6 = .ok (.ldc2_w 159, 3) := by decide +kernel
theorem dX12_width_9 : decode cX12_width 9 = .ok (.lload_n 0, 1) := by decide +kernel
theorem dX12_width_10 : decode cX12_width 10 = .ok (.lmul, 1) := by decide +kernel
theorem dX12_width_11 : decode cX12_width 11 = .ok (.lconst 1, 1) := by decide +kernel
theorem dX12_width_12 : decode cX12_width 12 = .ok (.lsub, 1) := by decide +kernel
theorem dX12_width_13 : decode cX12_width 13 = .ok (.goto 8, 3) := by decide +kernel
theorem dX12_width_16 : decode cX12_width 16 = .ok (.ldc2_w 161, 3) := by decide +kernel
theorem dX12_width_19 : decode cX12_width 19 = .ok (.lload_n 0, 1) := by decide +kernel
theorem dX12_width_20 : decode cX12_width 20 = .ok (.lmul, 1) := by decide +kernel
theorem dX12_width_21 : decode cX12_width 21 = .ok (.lstore_n 2, 1) := by decide +kernel
theorem dX12_width_22 : decode cX12_width 22 = .ok (.iconst 1, 1) := by decide +kernel
theorem dX12_width_23 : decode cX12_width 23 = .ok (.istore 4, 2) := by decide +kernel
theorem dX12_width_25 : decode cX12_width 25 = .ok (.lload_n 2, 1) := by decide +kernel
theorem dX12_width_26 : decode cX12_width 26 = .ok (.lconst 0, 1) := by decide +kernel
theorem dX12_width_27 : decode cX12_width 27 = .ok (.lcmp, 1) := by decide +kernel
theorem dX12_width_28 : decode cX12_width 28 = .ok (.ifCond .lt 11, 3) := by decide +kernel
theorem dX12_width_31 : decode cX12_width 31 = .ok (.lload_n 2, 1) := by decide +kernel
theorem dX12_width_32 : decode cX12_width 32 = .ok (.ldc2_w 163, 3) := by decide +kernel
theorem dX12_width_35 : decode cX12_width 35 = .ok (.lcmp, 1) := by decide +kernel
theorem dX12_width_36 : decode cX12_width 36 = .ok (.ifCond .le 14, 3) := by decide +kernel
theorem dX12_width_39 : decode cX12_width 39 = .ok (.lload_n 2, 1) := by decide +kernel
theorem dX12_width_40 : decode cX12_width 40 = .ok (.bipush 7, 2) := by decide +kernel
theorem dX12_width_42 : decode cX12_width 42 = .ok (.lushr, 1) := by decide +kernel
theorem dX12_width_43 : decode cX12_width 43 = .ok (.lstore_n 2, 1) := by decide +kernel
theorem dX12_width_44 : decode cX12_width 44 = .ok (.iinc 4 1, 3) := by decide +kernel
theorem dX12_width_47 : decode cX12_width 47 = .ok (.goto (-22), 3) := by decide +kernel
theorem dX12_width_50 : decode cX12_width 50 = .ok (.iload 4, 2) := by decide +kernel
theorem dX12_width_52 : decode cX12_width 52 = .ok (.ireturn, 1) := by decide +kernel
theorem dX12_body_0 : decode cX12_body 0 = .ok (.iconst 2, 1) := by decide +kernel
theorem dX12_body_1 : decode cX12_body 1 = .ok (.aload_n 0, 1) := by decide +kernel
theorem dX12_body_2 : decode cX12_body 2 = .ok (.getfield 30, 3) := by decide +kernel
theorem dX12_body_5 : decode cX12_body 5 = .ok (.iload_n 1, 1) := by decide +kernel
theorem dX12_body_6 : decode cX12_body 6 = .ok (.iaload, 1) := by decide +kernel
theorem dX12_body_7 : decode cX12_body 7 = .ok (.i2l, 1) := by decide +kernel
theorem dX12_body_8 : decode cX12_body 8 = .ok (.invokestatic 165, 3) := by decide +kernel
theorem dX12_body_11 : decode cX12_body 11 = .ok (.iadd, 1) := by decide +kernel
theorem dX12_body_12 : decode cX12_body 12 = .ok (.iload_n 1, 1) := by decide +kernel
theorem dX12_body_13 : decode cX12_body 13 = .ok (.i2l, 1) := by decide +kernel
theorem dX12_body_14 : decode cX12_body 14 = .ok (.invokestatic 165, 3) := by decide +kernel
theorem dX12_body_17 : decode cX12_body 17 = .ok (.iadd, 1) := by decide +kernel
theorem dX12_body_18 : decode cX12_body 18 = .ok (.aload_n 0, 1) := by decide +kernel
theorem dX12_body_19 : decode cX12_body 19 = .ok (.getfield 21, 3) := by decide +kernel
theorem dX12_body_22 : decode cX12_body 22 = .ok (.iload_n 1, 1) := by decide +kernel
theorem dX12_body_23 : decode cX12_body 23 = .ok (.iaload, 1) := by decide +kernel
theorem dX12_body_24 : decode cX12_body 24 = .ok (.i2l, 1) := by decide +kernel
theorem dX12_body_25 : decode cX12_body 25 = .ok (.invokestatic 165, 3) := by decide +kernel
theorem dX12_body_28 : decode cX12_body 28 = .ok (.iadd, 1) := by decide +kernel
theorem dX12_body_29 : decode cX12_body 29 = .ok (.aload_n 0, 1) := by decide +kernel
theorem dX12_body_30 : decode cX12_body 30 = .ok (.getfield 27, 3) := by decide +kernel
theorem dX12_body_33 : decode cX12_body 33 = .ok (.iload_n 1, 1) := by decide +kernel
theorem dX12_body_34 : decode cX12_body 34 = .ok (.iaload, 1) := by decide +kernel
theorem dX12_body_35 : decode cX12_body 35 = .ok (.i2l, 1) := by decide +kernel
theorem dX12_body_36 : decode cX12_body 36 = .ok (.invokestatic 165, 3) := by decide +kernel
theorem dX12_body_39 : decode cX12_body 39 = .ok (.iadd, 1) := by decide +kernel
theorem dX12_body_40 : decode cX12_body 40 = .ok (.istore_n 2, 1) := by decide +kernel
theorem dX12_body_41 : decode cX12_body 41 = .ok (.iload_n 2, 1) := by decide +kernel
theorem dX12_body_42 : decode cX12_body 42 = .ok (.aload_n 0, 1) := by decide +kernel
theorem dX12_body_43 : decode cX12_body 43 = .ok (.getfield 21, 3) := by decide +kernel
theorem dX12_body_46 : decode cX12_body 46 = .ok (.iload_n 1, 1) := by decide +kernel
theorem dX12_body_47 : decode cX12_body 47 = .ok (.iaload, 1) := by decide +kernel
theorem dX12_body_48 : decode cX12_body 48 = .ok (.ifCond .le 12, 3) := by decide +kernel
theorem dX12_body_51 : decode cX12_body 51 = .ok (.aload_n 0, 1) := by decide +kernel
theorem dX12_body_52 : decode cX12_body 52 = .ok (.getfield 21, 3) := by decide +kernel
theorem dX12_body_55 : decode cX12_body 55 = .ok (.iload_n 1, 1) := by decide +kernel
theorem dX12_body_56 : decode cX12_body 56 = .ok (.iaload, 1) := by decide +kernel
theorem dX12_body_57 : decode cX12_body 57 = .ok (.goto 4, 3) := by decide +kernel
theorem dX12_body_60 : decode cX12_body 60 = .ok (.iconst 0, 1) := by decide +kernel
theorem dX12_body_61 : decode cX12_body 61 = .ok (.iadd, 1) := by decide +kernel
theorem dX12_body_62 : decode cX12_body 62 = .ok (.istore_n 2, 1) := by decide +kernel
theorem dX12_body_63 : decode cX12_body 63 = .ok (.iload_n 2, 1) := by decide +kernel
theorem dX12_body_64 : decode cX12_body 64 = .ok (.aload_n 0, 1) := by decide +kernel
theorem dX12_body_65 : decode cX12_body 65 = .ok (.getfield 27, 3) := by decide +kernel
theorem dX12_body_68 : decode cX12_body 68 = .ok (.iload_n 1, 1) := by decide +kernel
theorem dX12_body_69 : decode cX12_body 69 = .ok (.iaload, 1) := by decide +kernel
theorem dX12_body_70 : decode cX12_body 70 = .ok (.ifCond .le 12, 3) := by decide +kernel
theorem dX12_body_73 : decode cX12_body 73 = .ok (.aload_n 0, 1) := by decide +kernel
theorem dX12_body_74 : decode cX12_body 74 = .ok (.getfield 27, 3) := by decide +kernel
theorem dX12_body_77 : decode cX12_body 77 = .ok (.iload_n 1, 1) := by decide +kernel
theorem dX12_body_78 : decode cX12_body 78 = .ok (.iaload, 1) := by decide +kernel
theorem dX12_body_79 : decode cX12_body 79 = .ok (.goto 4, 3) := by decide +kernel
theorem dX12_body_82 : decode cX12_body 82 = .ok (.iconst 0, 1) := by decide +kernel
theorem dX12_body_83 : decode cX12_body 83 = .ok (.iadd, 1) := by decide +kernel
theorem dX12_body_84 : decode cX12_body 84 = .ok (.ireturn, 1) := by decide +kernel
theorem dX12_weight_0 : decode cX12_weight 0 = .ok (.iconst 0, 1) := by decide +kernel
theorem dX12_weight_1 : decode cX12_weight 1 = .ok (.istore_n 1, 1) := by decide +kernel
theorem dX12_weight_2 : decode cX12_weight 2 = .ok (.iconst 0, 1) := by decide +kernel
theorem dX12_weight_3 : decode cX12_weight 3 = .ok (.istore_n 2, 1) := by decide +kernel
theorem dX12_weight_4 : decode cX12_weight 4 = .ok (.iload_n 2, 1) := by decide +kernel
theorem dX12_weight_5 : decode cX12_weight 5 = .ok (.aload_n 0, 1) := by decide +kernel
theorem dX12_weight_6 : decode cX12_weight 6 = .ok (.getfield 169, 3) := by decide +kernel
theorem dX12_weight_9 : decode cX12_weight 9 = .ok (.if_icmp .ge 27, 3) := by decide +kernel
theorem dX12_weight_12 : decode cX12_weight 12 = .ok (.iload_n 1, 1) := by decide +kernel
theorem dX12_weight_13 : decode cX12_weight 13 = .ok (.aload_n 0, 1) := by decide +kernel
theorem dX12_weight_14 : decode cX12_weight 14 = .ok (.iload_n 2, 1) := by decide +kernel
theorem dX12_weight_15 : decode cX12_weight 15 = .ok (.invokevirtual 172, 3) := by decide +kernel
theorem dX12_weight_18 : decode cX12_weight 18 = .ok (.i2l, 1) := by decide +kernel
theorem dX12_weight_19 : decode cX12_weight 19 = .ok (.invokestatic 165, 3) := by decide +kernel
theorem dX12_weight_22 : decode cX12_weight 22 = .ok (.aload_n 0, 1) := by decide +kernel
theorem dX12_weight_23 : decode cX12_weight 23 = .ok (.iload_n 2, 1) := by decide +kernel
theorem dX12_weight_24 : decode cX12_weight 24 = .ok (.invokevirtual 172, 3) := by decide +kernel
theorem dX12_weight_27 : decode cX12_weight 27 = .ok (.iadd, 1) := by decide +kernel
theorem dX12_weight_28 : decode cX12_weight 28 = .ok (.iadd, 1) := by decide +kernel
theorem dX12_weight_29 : decode cX12_weight 29 = .ok (.istore_n 1, 1) := by decide +kernel
theorem dX12_weight_30 : decode cX12_weight 30 = .ok (.iinc 2 1, 3) := by decide +kernel
theorem dX12_weight_33 : decode cX12_weight 33 = .ok (.goto (-29), 3) := by decide +kernel
theorem dX12_weight_36 : decode cX12_weight 36 = .ok (.iload_n 1, 1) := by decide +kernel
theorem dX12_weight_37 : decode cX12_weight 37 = .ok (.ireturn, 1) := by decide +kernel
theorem dX12_record_0 : decode cX12_record 0 = .ok (.aload_n 0, 1) := by decide +kernel
theorem dX12_record_1 : decode cX12_record 1 = .ok (.iload_n 1, 1) := by decide +kernel
theorem dX12_record_2 : decode cX12_record 2 = .ok (.iconst 1, 1) := by decide +kernel
theorem dX12_record_3 : decode cX12_record 3 = .ok (.if_icmp .lt 48, 3) := by decide +kernel
theorem dX12_record_6 : decode cX12_record 6 = .ok (.iload_n 1, 1) := by decide +kernel
theorem dX12_record_7 : decode cX12_record 7 = .ok (.bipush 100, 2) := by decide +kernel
theorem dX12_record_9 : decode cX12_record 9 = .ok (.if_icmp .gt 42, 3) := by decide +kernel
theorem dX12_record_12 : decode cX12_record 12 = .ok (.iload 4, 2) := by decide +kernel
theorem dX12_record_14 : decode cX12_record 14 = .ok (.iconst (-1), 1) := by decide +kernel
theorem dX12_record_15 : decode cX12_record 15 = .ok (.if_icmp .lt 36, 3) := by decide +kernel
theorem dX12_record_18 : decode cX12_record 18 = .ok (.iload 4, 2) := by decide +kernel
theorem dX12_record_20 : decode cX12_record 20 = .ok (.bipush 8, 2) := by decide +kernel
theorem dX12_record_22 : decode cX12_record 22 = .ok (.if_icmp .gt 29, 3) := by decide +kernel
theorem dX12_record_25 : decode cX12_record 25 = .ok (.iload 7, 2) := by decide +kernel
theorem dX12_record_27 : decode cX12_record 27 = .ok (.iconst (-1), 1) := by decide +kernel
theorem dX12_record_28 : decode cX12_record 28 = .ok (.if_icmp .lt 23, 3) := by decide +kernel
theorem dX12_record_31 : decode cX12_record 31 = .ok (.iload 7, 2) := by decide +kernel
theorem dX12_record_33 : decode cX12_record 33 = .ok (.sipush 300, 3) := by decide +kernel
theorem dX12_record_36 : decode cX12_record 36 = .ok (.if_icmp .gt 15, 3) := by decide +kernel
theorem dX12_record_39 : decode cX12_record 39 = .ok (.iload 8, 2) := by decide +kernel
theorem dX12_record_41 : decode cX12_record 41 = .ok (.ifCond .lt 10, 3) := by decide +kernel
theorem dX12_record_44 : decode cX12_record 44 = .ok (.iload 8, 2) := by decide +kernel
theorem dX12_record_46 : decode cX12_record 46 = .ok (.ldc 176, 2) := by decide +kernel
theorem dX12_record_48 : decode cX12_record 48 = .ok (.if_icmp .le 7, 3) := by decide +kernel
theorem dX12_record_51 : decode cX12_record 51 = .ok (.iconst 1, 1) := by decide +kernel
theorem dX12_record_52 : decode cX12_record 52 = .ok (.goto 20, 3) := by decide +kernel
theorem dX12_record_55 : decode cX12_record 55 = .ok (.aload_n 0, 1) := by decide +kernel
theorem dX12_record_56 : decode cX12_record 56 = .ok (.getfield 169, 3) := by decide +kernel
theorem dX12_record_59 : decode cX12_record 59 = .ok (.iload_n 1, 1) := by decide +kernel
theorem dX12_record_60 : decode cX12_record 60 = .ok (.iadd, 1) := by decide +kernel
theorem dX12_record_61 : decode cX12_record 61 = .ok (.sipush 1000, 3) := by decide +kernel
theorem dX12_record_64 : decode cX12_record 64 = .ok (.if_icmp .le 7, 3) := by decide +kernel
theorem dX12_record_67 : decode cX12_record 67 = .ok (.iconst 2, 1) := by decide +kernel
theorem dX12_record_68 : decode cX12_record 68 = .ok (.goto 4, 3) := by decide +kernel
theorem dX12_record_71 : decode cX12_record 71 = .ok (.iconst 0, 1) := by decide +kernel
theorem dX12_record_72 : decode cX12_record 72 = .ok (.putfield 145, 3) := by decide +kernel
theorem dX12_record_75 : decode cX12_record 75 = .ok (.aload_n 0, 1) := by decide +kernel
theorem dX12_record_76 : decode cX12_record 76 = .ok (.getfield 145, 3) := by decide +kernel
theorem dX12_record_79 : decode cX12_record 79 = .ok (.ifCond .le 5, 3) := by decide +kernel
theorem dX12_record_82 : decode cX12_record 82 = .ok (.iconst 0, 1) := by decide +kernel
theorem dX12_record_83 : decode cX12_record 83 = .ok (.ireturn, 1) := by decide +kernel
theorem dX12_record_84 : decode cX12_record 84 = .ok (.aload_n 0, 1) := by decide +kernel
theorem dX12_record_85 : decode cX12_record 85 = .ok (.getfield 169, 3) := by decide +kernel
theorem dX12_record_88 : decode cX12_record 88 = .ok (.istore 9, 2) := by decide +kernel
theorem dX12_record_90 : decode cX12_record 90 = .ok (.iconst 0, 1) := by decide +kernel
theorem dX12_record_91 : decode cX12_record 91 = .ok (.istore 10, 2) := by decide +kernel
theorem dX12_record_93 : decode cX12_record 93 = .ok (.iload 10, 2) := by decide +kernel
theorem dX12_record_95 : decode cX12_record 95 = .ok (.iload_n 1, 1) := by decide +kernel
theorem dX12_record_96 : decode cX12_record 96 = .ok (.if_icmp .ge 84, 3) := by decide +kernel
theorem dX12_record_99 : decode cX12_record 99 = .ok (.aload_n 0, 1) := by decide +kernel
theorem dX12_record_100 : decode cX12_record 100 = .ok (.getfield 17, 3) := by decide +kernel
theorem dX12_record_103 : decode cX12_record 103 = .ok (.aload_n 0, 1) := by decide +kernel
theorem dX12_record_104 : decode cX12_record 104 = .ok (.getfield 169, 3) := by decide +kernel
theorem dX12_record_107 : decode cX12_record 107 = .ok (.lload_n 2, 1) := by decide +kernel
theorem dX12_record_108 : decode cX12_record 108 = .ok (.iload 10, 2) := by decide +kernel
theorem dX12_record_110 : decode cX12_record 110 = .ok (.i2l, 1) := by decide +kernel
theorem dX12_record_111 : decode cX12_record 111 = .ok (.ladd, 1) := by decide +kernel
theorem dX12_record_112 : decode cX12_record 112 = .ok (.lastore, 1) := by decide +kernel
theorem dX12_record_113 : decode cX12_record 113 = .ok (.aload_n 0, 1) := by decide +kernel
theorem dX12_record_114 : decode cX12_record 114 = .ok (.getfield 21, 3) := by decide +kernel
theorem dX12_record_117 : decode cX12_record 117 = .ok (.aload_n 0, 1) := by decide +kernel
theorem dX12_record_118 : decode cX12_record 118 = .ok (.getfield 169, 3) := by decide +kernel
theorem dX12_record_121 : decode cX12_record 121 = .ok (.iload 4, 2) := by decide +kernel
theorem dX12_record_123 : decode cX12_record 123 = .ok (.iastore, 1) := by decide +kernel
theorem dX12_record_124 : decode cX12_record 124 = .ok (.aload_n 0, 1) := by decide +kernel
theorem dX12_record_125 : decode cX12_record 125 = .ok (.getfield 24, 3) := by decide +kernel
theorem dX12_record_128 : decode cX12_record 128 = .ok (.aload_n 0, 1) := by decide +kernel
theorem dX12_record_129 : decode cX12_record 129 = .ok (.getfield 169, 3) := by decide +kernel
theorem dX12_record_132 : decode cX12_record 132 = .ok (.lload 5, 2) := by decide +kernel
theorem dX12_record_134 : decode cX12_record 134 = .ok (.iload 10, 2) := by decide +kernel
theorem dX12_record_136 : decode cX12_record 136 = .ok (.i2l, 1) := by decide +kernel
theorem dX12_record_137 : decode cX12_record 137 = .ok (.ladd, 1) := by decide +kernel
theorem dX12_record_138 : decode cX12_record 138 = .ok (.lastore, 1) := by decide +kernel
theorem dX12_record_139 : decode cX12_record 139 = .ok (.aload_n 0, 1) := by decide +kernel
theorem dX12_record_140 : decode cX12_record 140 = .ok (.getfield 27, 3) := by decide +kernel
theorem dX12_record_143 : decode cX12_record 143 = .ok (.aload_n 0, 1) := by decide +kernel
theorem dX12_record_144 : decode cX12_record 144 = .ok (.getfield 169, 3) := by decide +kernel
theorem dX12_record_147 : decode cX12_record 147 = .ok (.iload 7, 2) := by decide +kernel
theorem dX12_record_149 : decode cX12_record 149 = .ok (.iastore, 1) := by decide +kernel
theorem dX12_record_150 : decode cX12_record 150 = .ok (.aload_n 0, 1) := by decide +kernel
theorem dX12_record_151 : decode cX12_record 151 = .ok (.getfield 30, 3) := by decide +kernel
theorem dX12_record_154 : decode cX12_record 154 = .ok (.aload_n 0, 1) := by decide +kernel
theorem dX12_record_155 : decode cX12_record 155 = .ok (.getfield 169, 3) := by decide +kernel
theorem dX12_record_158 : decode cX12_record 158 = .ok (.iload 8, 2) := by decide +kernel
theorem dX12_record_160 : decode cX12_record 160 = .ok (.iload 10, 2) := by decide +kernel
theorem dX12_record_162 : decode cX12_record 162 = .ok (.iadd, 1) := by decide +kernel
theorem dX12_record_163 : decode cX12_record 163 = .ok (.iastore, 1) := by decide +kernel
theorem dX12_record_164 : decode cX12_record 164 = .ok (.aload_n 0, 1) := by decide +kernel
theorem dX12_record_165 : decode cX12_record 165 = .ok (.dup, 1) := by decide +kernel
theorem dX12_record_166 : decode cX12_record 166 = .ok (.getfield 169, 3) := by decide +kernel
theorem dX12_record_169 : decode cX12_record 169 = .ok (.iconst 1, 1) := by decide +kernel
theorem dX12_record_170 : decode cX12_record 170 = .ok (.iadd, 1) := by decide +kernel
theorem dX12_record_171 : decode cX12_record 171 = .ok (.putfield 169, 3) := by decide +kernel
theorem dX12_record_174 : decode cX12_record 174 = .ok (.iinc 10 1, 3) := by decide +kernel
theorem dX12_record_177 : decode cX12_record 177 = .ok (.goto (-84), 3) := by decide +kernel
theorem dX12_record_180 : decode cX12_record 180 = .ok (.aload_n 0, 1) := by decide +kernel
theorem dX12_record_181 : decode cX12_record 181 = .ok (.invokevirtual 177, 3) := by decide +kernel
theorem dX12_record_184 : decode cX12_record 184 = .ok (.sipush 16000, 3) := by decide +kernel
theorem dX12_record_187 : decode cX12_record 187 = .ok (.if_icmp .le 16, 3) := by decide +kernel
theorem dX12_record_190 : decode cX12_record 190 = .ok (.aload_n 0, 1) := by decide +kernel
theorem dX12_record_191 : decode cX12_record 191 = .ok (.iload 9, 2) := by decide +kernel
theorem dX12_record_193 : decode cX12_record 193 = .ok (.putfield 169, 3) := by decide +kernel
theorem dX12_record_196 : decode cX12_record 196 = .ok (.aload_n 0, 1) := by decide +kernel
theorem dX12_record_197 : decode cX12_record 197 = .ok (.iconst 2, 1) := by decide +kernel
theorem dX12_record_198 : decode cX12_record 198 = .ok (.putfield 145, 3) := by decide +kernel
theorem dX12_record_201 : decode cX12_record 201 = .ok (.iconst 0, 1) := by decide +kernel
theorem dX12_record_202 : decode cX12_record 202 = .ok (.ireturn, 1) := by decide +kernel
theorem dX12_record_203 : decode cX12_record 203 = .ok (.aload_n 0, 1) := by decide +kernel
theorem dX12_record_204 : decode cX12_record 204 = .ok (.getfield 169, 3) := by decide +kernel
theorem dX12_record_207 : decode cX12_record 207 = .ok (.ireturn, 1) := by decide +kernel
theorem dX12_varint_0 : decode cX12_varint 0 = .ok (.lload_n 1, 1) := by decide +kernel
theorem dX12_varint_1 : decode cX12_varint 1 = .ok (.lconst 0, 1) := by decide +kernel
theorem dX12_varint_2 : decode cX12_varint 2 = .ok (.lcmp, 1) := by decide +kernel
theorem dX12_varint_3 : decode cX12_varint 3 = .ok (.ifCond .ge 13, 3) := by decide +kernel
theorem dX12_varint_6 : decode cX12_varint 6 = .ok (.ldc2_w 159, 3) := by decide +kernel
theorem dX12_varint_9 : decode cX12_varint 9 = .ok (.lload_n 1, 1) := by decide +kernel
theorem dX12_varint_10 : decode cX12_varint 10 = .ok (.lmul, 1) := by decide +kernel
theorem dX12_varint_11 : decode cX12_varint 11 = .ok (.lconst 1, 1) := by decide +kernel
theorem dX12_varint_12 : decode cX12_varint 12 = .ok (.lsub, 1) := by decide +kernel
theorem dX12_varint_13 : decode cX12_varint 13 = .ok (.goto 8, 3) := by decide +kernel
theorem dX12_varint_16 : decode cX12_varint 16 = .ok (.ldc2_w 161, 3) := by decide +kernel
theorem dX12_varint_19 : decode cX12_varint 19 = .ok (.lload_n 1, 1) := by decide +kernel
theorem dX12_varint_20 : decode cX12_varint 20 = .ok (.lmul, 1) := by decide +kernel
theorem dX12_varint_21 : decode cX12_varint 21 = .ok (.lstore_n 3, 1) := by decide +kernel
theorem dX12_varint_22 : decode cX12_varint 22 = .ok (.lload_n 1, 1) := by decide +kernel
theorem dX12_varint_23 : decode cX12_varint 23 = .ok (.invokestatic 165, 3) := by decide +kernel
theorem dX12_varint_26 : decode cX12_varint 26 = .ok (.istore 5, 2) := by decide +kernel
theorem dX12_varint_28 : decode cX12_varint 28 = .ok (.iload 5, 2) := by decide +kernel
theorem dX12_varint_30 : decode cX12_varint 30 = .ok (.ifCond .le 38, 3) := by decide +kernel
theorem dX12_varint_33 : decode cX12_varint 33 = .ok (.aload_n 0, 1) := by decide +kernel
theorem dX12_varint_34 : decode cX12_varint 34 = .ok (.lload_n 3, 1) := by decide +kernel
theorem dX12_varint_35 : decode cX12_varint 35 = .ok (.ldc2_w 163, 3) := by decide +kernel
theorem dX12_varint_38 : decode cX12_varint 38 = .ok (.land, 1) := by decide +kernel
theorem dX12_varint_39 : decode cX12_varint 39 = .ok (.iload 5, 2) := by decide +kernel
theorem dX12_varint_41 : decode cX12_varint 41 = .ok (.iconst 1, 1) := by decide +kernel
theorem dX12_varint_42 : decode cX12_varint 42 = .ok (.if_icmp .le 9, 3) := by decide +kernel
theorem dX12_varint_45 : decode cX12_varint 45 = .ok (.ldc2_w 181, 3) := by decide +kernel
theorem dX12_varint_48 : decode cX12_varint 48 = .ok (.goto 4, 3) := by decide +kernel
theorem dX12_varint_51 : decode cX12_varint 51 = .ok (.lconst 0, 1) := by decide +kernel
theorem dX12_varint_52 : decode cX12_varint 52 = .ok (.ladd, 1) := by decide +kernel
theorem dX12_varint_53 : decode cX12_varint 53 = .ok (.iconst 1, 1) := by decide +kernel
theorem dX12_varint_54 : decode cX12_varint 54 = .ok (.invokevirtual 151, 3) := by decide +kernel
theorem dX12_varint_57 : decode cX12_varint 57 = .ok (.lload_n 3, 1) := by decide +kernel
theorem dX12_varint_58 : decode cX12_varint 58 = .ok (.bipush 7, 2) := by decide +kernel
theorem dX12_varint_60 : decode cX12_varint 60 = .ok (.lushr, 1) := by decide +kernel
theorem dX12_varint_61 : decode cX12_varint 61 = .ok (.lstore_n 3, 1) := by decide +kernel
theorem dX12_varint_62 : decode cX12_varint 62 = .ok (.iinc 5 (-1), 3) := by decide +kernel
theorem dX12_varint_65 : decode cX12_varint 65 = .ok (.goto (-37), 3) := by decide +kernel
theorem dX12_varint_68 : decode cX12_varint 68 = .ok (.return_, 1) := by decide +kernel
theorem dX12_putRecord_0 : decode cX12_putRecord 0 = .ok (.aload_n 0, 1) := by decide +kernel
theorem dX12_putRecord_1 : decode cX12_putRecord 1 = .ok (.aload_n 0, 1) := by decide +kernel
theorem dX12_putRecord_2 : decode cX12_putRecord 2 = .ok (.iload_n 1, 1) := by decide +kernel
theorem dX12_putRecord_3 : decode cX12_putRecord 3 = .ok (.invokevirtual 172, 3) := by decide +kernel
theorem dX12_putRecord_6 : decode cX12_putRecord 6 = .ok (.i2l, 1) := by decide +kernel
theorem dX12_putRecord_7 : decode cX12_putRecord 7 = .ok (.invokevirtual 183, 3) := by decide +kernel
theorem dX12_putRecord_10 : decode cX12_putRecord 10 = .ok (.aload_n 0, 1) := by decide +kernel
theorem dX12_putRecord_11 : decode cX12_putRecord 11 = .ok (.lconst 0, 1) := by decide +kernel
theorem dX12_putRecord_12 : decode cX12_putRecord 12 = .ok (.iconst 1, 1) := by decide +kernel
theorem dX12_putRecord_13 : decode cX12_putRecord 13 = .ok (.invokevirtual 151, 3) := by decide +kernel
theorem dX12_putRecord_16 : decode cX12_putRecord 16 = .ok (.aload_n 0, 1) := by decide +kernel
theorem dX12_putRecord_17 : decode cX12_putRecord 17 = .ok (.aload_n 0, 1) := by decide +kernel
theorem dX12_putRecord_18 : decode cX12_putRecord 18 = .ok (.getfield 30, 3) := by decide +kernel
theorem dX12_putRecord_21 : decode cX12_putRecord 21 = .ok (.iload_n 1, 1) := by decide +kernel
theorem dX12_putRecord_22 : decode cX12_putRecord 22 = .ok (.iaload, 1) := by decide +kernel
theorem dX12_putRecord_23 : decode cX12_putRecord 23 = .ok (.i2l, 1) := by decide +kernel
theorem dX12_putRecord_24 : decode cX12_putRecord 24 = .ok (.invokevirtual 183, 3) := by decide +kernel
theorem dX12_putRecord_27 : decode cX12_putRecord 27 = .ok (.aload_n 0, 1) := by decide +kernel
theorem dX12_putRecord_28 : decode cX12_putRecord 28 = .ok (.iload_n 1, 1) := by decide +kernel
theorem dX12_putRecord_29 : decode cX12_putRecord 29 = .ok (.i2l, 1) := by decide +kernel
theorem dX12_putRecord_30 : decode cX12_putRecord 30 = .ok (.invokevirtual 183, 3) := by decide +kernel
theorem dX12_putRecord_33 : decode cX12_putRecord 33 = .ok (.aload_n 0, 1) := by decide +kernel
theorem dX12_putRecord_34 : decode cX12_putRecord 34 = .ok (.aload_n 0, 1) := by decide +kernel
theorem dX12_putRecord_35 : decode cX12_putRecord 35 = .ok (.getfield 21, 3) := by decide +kernel
theorem dX12_putRecord_38 : decode cX12_putRecord 38 = .ok (.iload_n 1, 1) := by decide +kernel
theorem dX12_putRecord_39 : decode cX12_putRecord 39 = .ok (.iaload, 1) := by decide +kernel
theorem dX12_putRecord_40 : decode cX12_putRecord 40 = .ok (.i2l, 1) := by decide +kernel
theorem dX12_putRecord_41 : decode cX12_putRecord 41 = .ok (.invokevirtual 183, 3) := by decide +kernel
theorem dX12_putRecord_44 : decode cX12_putRecord 44 = .ok (.aload_n 0, 1) := by decide +kernel
theorem dX12_putRecord_45 : decode cX12_putRecord 45 = .ok (.getfield 21, 3) := by decide +kernel
theorem dX12_putRecord_48 : decode cX12_putRecord 48 = .ok (.iload_n 1, 1) := by decide +kernel
theorem dX12_putRecord_49 : decode cX12_putRecord 49 = .ok (.iaload, 1) := by decide +kernel
theorem dX12_putRecord_50 : decode cX12_putRecord 50 = .ok (.ifCond .le 19, 3) := by decide +kernel
theorem dX12_putRecord_53 : decode cX12_putRecord 53 = .ok (.aload_n 0, 1) := by decide +kernel
theorem dX12_putRecord_54 : decode cX12_putRecord 54 = .ok (.aload_n 0, 1) := by decide +kernel
theorem dX12_putRecord_55 : decode cX12_putRecord 55 = .ok (.getfield 17, 3) := by decide +kernel
theorem dX12_putRecord_58 : decode cX12_putRecord 58 = .ok (.iload_n 1, 1) := by decide +kernel
theorem dX12_putRecord_59 : decode cX12_putRecord 59 = .ok (.laload, 1) := by decide +kernel
theorem dX12_putRecord_60 : decode cX12_putRecord 60 = .ok (.aload_n 0, 1) := by decide +kernel
theorem dX12_putRecord_61 : decode cX12_putRecord 61 = .ok (.getfield 21, 3) := by decide +kernel
theorem dX12_putRecord_64 : decode cX12_putRecord 64 = .ok (.iload_n 1, 1) := by decide +kernel
theorem dX12_putRecord_65 : decode cX12_putRecord 65 = .ok (.iaload, 1) := by decide +kernel
theorem dX12_putRecord_66 : decode cX12_putRecord 66 = .ok (.invokevirtual 151, 3) := by decide +kernel
theorem dX12_putRecord_69 : decode cX12_putRecord 69 = .ok (.aload_n 0, 1) := by decide +kernel
theorem dX12_putRecord_70 : decode cX12_putRecord 70 = .ok (.aload_n 0, 1) := by decide +kernel
theorem dX12_putRecord_71 : decode cX12_putRecord 71 = .ok (.getfield 27, 3) := by decide +kernel
theorem dX12_putRecord_74 : decode cX12_putRecord 74 = .ok (.iload_n 1, 1) := by decide +kernel
theorem dX12_putRecord_75 : decode cX12_putRecord 75 = .ok (.iaload, 1) := by decide +kernel
theorem dX12_putRecord_76 : decode cX12_putRecord 76 = .ok (.i2l, 1) := by decide +kernel
theorem dX12_putRecord_77 : decode cX12_putRecord 77 = .ok (.invokevirtual 183, 3) := by decide +kernel
theorem dX12_putRecord_80 : decode cX12_putRecord 80 = .ok (.iconst 0, 1) := by decide +kernel
theorem dX12_putRecord_81 : decode cX12_putRecord 81 = .ok (.istore_n 2, 1) := by decide +kernel
theorem dX12_putRecord_82 : decode cX12_putRecord 82 = .ok (.iload_n 2, 1) := by decide +kernel
theorem dX12_putRecord_83 : decode cX12_putRecord 83 = .ok (.aload_n 0, 1) := by decide +kernel
theorem dX12_putRecord_84 : decode cX12_putRecord 84 = .ok (.getfield 27, 3) := by decide +kernel
theorem dX12_putRecord_87 : decode cX12_putRecord 87 = .ok (.iload_n 1, 1) := by decide +kernel
theorem dX12_putRecord_88 : decode cX12_putRecord 88 = .ok (.iaload, 1) := by decide +kernel
theorem dX12_putRecord_89 : decode cX12_putRecord 89 = .ok (.if_icmp .ge 28, 3) := by decide +kernel
theorem dX12_putRecord_92 : decode cX12_putRecord 92 = .ok (.aload_n 0, 1) := by decide +kernel
theorem dX12_putRecord_93 : decode cX12_putRecord 93 = .ok (.aload_n 0, 1) := by decide +kernel
theorem dX12_putRecord_94 : decode cX12_putRecord 94 = .ok (.getfield 24, 3) := by decide +kernel
theorem dX12_putRecord_97 : decode cX12_putRecord 97 = .ok (.iload_n 1, 1) := by decide +kernel
theorem dX12_putRecord_98 : decode cX12_putRecord 98 = .ok (.laload, 1) := by decide +kernel
theorem dX12_putRecord_99 : decode cX12_putRecord 99 = .ok (.bipush 8, 2) := by decide +kernel
theorem dX12_putRecord_101 : decode cX12_putRecord 101 = .ok (.iload_n 2, 1) := by decide +kernel
theorem dX12_putRecord_102 : decode cX12_putRecord 102 = .ok (.bipush 8, 2) := by decide +kernel
theorem dX12_putRecord_104 : decode cX12_putRecord 104 = .ok (.irem, 1) := by decide +kernel
theorem dX12_putRecord_105 : decode cX12_putRecord 105 = .ok (.imul, 1) := by decide +kernel
theorem dX12_putRecord_106 : decode cX12_putRecord 106 = .ok (.lshr, 1) := by decide +kernel
theorem dX12_putRecord_107 : decode cX12_putRecord 107 = .ok (.iconst 1, 1) := by decide +kernel
theorem dX12_putRecord_108 : decode cX12_putRecord 108 = .ok (.invokevirtual 151, 3) := by decide +kernel
theorem dX12_putRecord_111 : decode cX12_putRecord 111 = .ok (.iinc 2 1, 3) := by decide +kernel
theorem dX12_putRecord_114 : decode cX12_putRecord 114 = .ok (.goto (-32), 3) := by decide +kernel
theorem dX12_putRecord_117 : decode cX12_putRecord 117 = .ok (.aload_n 0, 1) := by decide +kernel
theorem dX12_putRecord_118 : decode cX12_putRecord 118 = .ok (.lconst 0, 1) := by decide +kernel
theorem dX12_putRecord_119 : decode cX12_putRecord 119 = .ok (.iconst 1, 1) := by decide +kernel
theorem dX12_putRecord_120 : decode cX12_putRecord 120 = .ok (.invokevirtual 151, 3) := by decide +kernel
theorem dX12_putRecord_123 : decode cX12_putRecord 123 = .ok (.return_, 1) := by decide +kernel
theorem dX12_sealed_0 : decode cX12_sealed 0 = .ok (.aload_n 0, 1) := by decide +kernel
theorem dX12_sealed_1 : decode cX12_sealed 1 = .ok (.getfield 148, 3) := by decide +kernel
theorem dX12_sealed_4 : decode cX12_sealed 4 = .ok (.istore 7, 2) := by decide +kernel
theorem dX12_sealed_6 : decode cX12_sealed 6 = .ok (.lconst 0, 1) := by decide +kernel
theorem dX12_sealed_7 : decode cX12_sealed 7 = .ok (.lstore 8, 2) := by decide +kernel
theorem dX12_sealed_9 : decode cX12_sealed 9 = .ok (.iconst 0, 1) := by decide +kernel
theorem dX12_sealed_10 : decode cX12_sealed 10 = .ok (.istore 10, 2) := by decide +kernel
theorem dX12_sealed_12 : decode cX12_sealed 12 = .ok (.iload 10, 2) := by decide +kernel
theorem dX12_sealed_14 : decode cX12_sealed 14 = .ok (.aload_n 0, 1) := by decide +kernel
theorem dX12_sealed_15 : decode cX12_sealed 15 = .ok (.getfield 169, 3) := by decide +kernel
theorem dX12_sealed_18 : decode cX12_sealed 18 = .ok (.if_icmp .ge 44, 3) := by decide +kernel
theorem dX12_sealed_21 : decode cX12_sealed 21 = .ok (.lload 5, 2) := by decide +kernel
theorem dX12_sealed_23 : decode cX12_sealed 23 = .ok (.aload_n 0, 1) := by decide +kernel
theorem dX12_sealed_24 : decode cX12_sealed 24 = .ok (.getfield 30, 3) := by decide +kernel
theorem dX12_sealed_27 : decode cX12_sealed 27 = .ok (.iload 10, 2) := by decide +kernel
theorem dX12_sealed_29 : decode cX12_sealed 29 = .ok (.iaload, 1) := by decide +kernel
theorem dX12_sealed_30 : decode cX12_sealed 30 = .ok (.i2l, 1) := by decide +kernel
theorem dX12_sealed_31 : decode cX12_sealed 31 = .ok (.ladd, 1) := by decide +kernel
theorem dX12_sealed_32 : decode cX12_sealed 32 = .ok (.lload 8, 2) := by decide +kernel
theorem dX12_sealed_34 : decode cX12_sealed 34 = .ok (.lcmp, 1) := by decide +kernel
theorem dX12_sealed_35 : decode cX12_sealed 35 = .ok (.ifCond .le 17, 3) := by decide +kernel
theorem dX12_sealed_38 : decode cX12_sealed 38 = .ok (.lload 5, 2) := by decide +kernel
theorem dX12_sealed_40 : decode cX12_sealed 40 = .ok (.aload_n 0, 1) := by decide +kernel
theorem dX12_sealed_41 : decode cX12_sealed 41 = .ok (.getfield 30, 3) := by decide +kernel
theorem dX12_sealed_44 : decode cX12_sealed 44 = .ok (.iload 10, 2) := by decide +kernel
theorem dX12_sealed_46 : decode cX12_sealed 46 = .ok (.iaload, 1) := by decide +kernel
theorem dX12_sealed_47 : decode cX12_sealed 47 = .ok (.i2l, 1) := by decide +kernel
theorem dX12_sealed_48 : decode cX12_sealed 48 = .ok (.ladd, 1) := by decide +kernel
theorem dX12_sealed_49 : decode cX12_sealed 49 = .ok (.goto 5, 3) := by decide +kernel
theorem dX12_sealed_52 : decode cX12_sealed 52 = .ok (.lload 8, 2) := by decide +kernel
theorem dX12_sealed_54 : decode cX12_sealed 54 = .ok (.lstore 8, 2) := by decide +kernel
theorem dX12_sealed_56 : decode cX12_sealed 56 = .ok (.iinc 10 1, 3) := by decide +kernel
theorem dX12_sealed_59 : decode cX12_sealed 59 = .ok (.goto (-47), 3) := by decide +kernel
theorem dX12_sealed_62 : decode cX12_sealed 62 = .ok (.aload_n 0, 1) := by decide +kernel
theorem dX12_sealed_63 : decode cX12_sealed 63 = .ok (.lconst 0, 1) := by decide +kernel
theorem dX12_sealed_64 : decode cX12_sealed 64 = .ok (.bipush 8, 2) := by decide +kernel
theorem dX12_sealed_66 : decode cX12_sealed 66 = .ok (.invokevirtual 151, 3) := by decide +kernel
theorem dX12_sealed_69 : decode cX12_sealed 69 = .ok (.aload_n 0, 1) := by decide +kernel
theorem dX12_sealed_70 : decode cX12_sealed 70 = .ok (.bipush 49, 2) := by decide +kernel
theorem dX12_sealed_72 : decode cX12_sealed 72 = .ok (.aload_n 0, 1) := by decide +kernel
theorem dX12_sealed_73 : decode cX12_sealed 73 = .ok (.invokevirtual 177, 3) := by decide +kernel
theorem dX12_sealed_76 : decode cX12_sealed 76 = .ok (.iadd, 1) := by decide +kernel
theorem dX12_sealed_77 : decode cX12_sealed 77 = .ok (.i2l, 1) := by decide +kernel
theorem dX12_sealed_78 : decode cX12_sealed 78 = .ok (.iconst 4, 1) := by decide +kernel
theorem dX12_sealed_79 : decode cX12_sealed 79 = .ok (.invokevirtual 151, 3) := by decide +kernel
theorem dX12_sealed_82 : decode cX12_sealed 82 = .ok (.aload_n 0, 1) := by decide +kernel
theorem dX12_sealed_83 : decode cX12_sealed 83 = .ok (.lconst 0, 1) := by decide +kernel
theorem dX12_sealed_84 : decode cX12_sealed 84 = .ok (.iconst 4, 1) := by decide +kernel
theorem dX12_sealed_85 : decode cX12_sealed 85 = .ok (.invokevirtual 151, 3) := by decide +kernel
theorem dX12_sealed_88 : decode cX12_sealed 88 = .ok (.aload_n 0, 1) := by decide +kernel
theorem dX12_sealed_89 : decode cX12_sealed 89 = .ok (.ldc2_w 161, 3) := by decide +kernel
theorem dX12_sealed_92 : decode cX12_sealed 92 = .ok (.iconst 1, 1) := by decide +kernel
theorem dX12_sealed_93 : decode cX12_sealed 93 = .ok (.invokevirtual 151, 3) := by decide +kernel
theorem dX12_sealed_96 : decode cX12_sealed 96 = .ok (.aload_n 0, 1) := by decide +kernel
theorem dX12_sealed_97 : decode cX12_sealed 97 = .ok (.lconst 0, 1) := by decide +kernel
theorem dX12_sealed_98 : decode cX12_sealed 98 = .ok (.iconst 4, 1) := by decide +kernel
theorem dX12_sealed_99 : decode cX12_sealed 99 = .ok (.invokevirtual 151, 3) := by decide +kernel
theorem dX12_sealed_102 : decode cX12_sealed 102 = .ok (.aload_n 0, 1) := by decide +kernel
theorem dX12_sealed_103 : decode cX12_sealed 103 = .ok (.lconst 0, 1) := by decide +kernel
theorem dX12_sealed_104 : decode cX12_sealed 104 = .ok (.iconst 2, 1) := by decide +kernel
theorem dX12_sealed_105 : decode cX12_sealed 105 = .ok (.invokevirtual 151, 3) := by decide +kernel
theorem dX12_sealed_108 : decode cX12_sealed 108 = .ok (.aload_n 0, 1) := by decide +kernel
theorem dX12_sealed_109 : decode cX12_sealed 109 = .ok (.aload_n 0, 1) := by decide +kernel
theorem dX12_sealed_110 : decode cX12_sealed 110 = .ok (.getfield 169, 3) := by decide +kernel
theorem dX12_sealed_113 : decode cX12_sealed 113 = .ok (.iconst 1, 1) := by decide +kernel
theorem dX12_sealed_114 : decode cX12_sealed 114 = .ok (.isub, 1) := by decide +kernel
theorem dX12_sealed_115 : decode cX12_sealed 115 = .ok (.i2l, 1) := by decide +kernel
theorem dX12_sealed_116 : decode cX12_sealed 116 = .ok (.iconst 4, 1) := by decide +kernel
theorem dX12_sealed_117 : decode cX12_sealed 117 = .ok (.invokevirtual 151, 3) := by decide +kernel
theorem dX12_sealed_120 : decode cX12_sealed 120 = .ok (.aload_n 0, 1) := by decide +kernel
theorem dX12_sealed_121 : decode cX12_sealed 121 = .ok (.lload 5, 2) := by decide +kernel
theorem dX12_sealed_123 : decode cX12_sealed 123 = .ok (.bipush 8, 2) := by decide +kernel
theorem dX12_sealed_125 : decode cX12_sealed 125 = .ok (.invokevirtual 151, 3) := by decide +kernel
theorem dX12_sealed_128 : decode cX12_sealed 128 = .ok (.aload_n 0, 1) := by decide +kernel
theorem dX12_sealed_129 : decode cX12_sealed 129 = .ok (.lload 8, 2) := by decide +kernel
theorem dX12_sealed_131 : decode cX12_sealed 131 = .ok (.bipush 8, 2) := by decide +kernel
theorem dX12_sealed_133 : decode cX12_sealed 133 = .ok (.invokevirtual 151, 3) := by decide +kernel
theorem dX12_sealed_136 : decode cX12_sealed 136 = .ok (.aload_n 0, 1) := by decide +kernel
theorem dX12_sealed_137 : decode cX12_sealed 137 = .ok (.lload_n 1, 1) := by decide +kernel
theorem dX12_sealed_138 : decode cX12_sealed 138 = .ok (.bipush 8, 2) := by decide +kernel
theorem dX12_sealed_140 : decode cX12_sealed 140 = .ok (.invokevirtual 151, 3) := by decide +kernel
theorem dX12_sealed_143 : decode cX12_sealed 143 = .ok (.aload_n 0, 1) := by decide +kernel
theorem dX12_sealed_144 : decode cX12_sealed 144 = .ok (.iload_n 3, 1) := by decide +kernel
theorem dX12_sealed_145 : decode cX12_sealed 145 = .ok (.i2l, 1) := by decide +kernel
theorem dX12_sealed_146 : decode cX12_sealed 146 = .ok (.iconst 2, 1) := by decide +kernel
theorem dX12_sealed_147 : decode cX12_sealed 147 = .ok (.invokevirtual 151, 3) := by decide +kernel
theorem dX12_sealed_150 : decode cX12_sealed 150 = .ok (.aload_n 0, 1) := by decide +kernel
theorem dX12_sealed_151 : decode cX12_sealed 151 = .ok (.iload 4, 2) := by decide +kernel
theorem dX12_sealed_153 : decode cX12_sealed 153 = .ok (.i2l, 1) := by decide +kernel
theorem dX12_sealed_154 : decode cX12_sealed 154 = .ok (.iconst 4, 1) := by decide +kernel
theorem dX12_sealed_155 : decode cX12_sealed 155 = .ok (.invokevirtual 151, 3) := by decide +kernel
theorem dX12_sealed_158 : decode cX12_sealed 158 = .ok (.aload_n 0, 1) := by decide +kernel
theorem dX12_sealed_159 : decode cX12_sealed 159 = .ok (.aload_n 0, 1) := by decide +kernel
theorem dX12_sealed_160 : decode cX12_sealed 160 = .ok (.getfield 169, 3) := by decide +kernel
theorem dX12_sealed_163 : decode cX12_sealed 163 = .ok (.i2l, 1) := by decide +kernel
theorem dX12_sealed_164 : decode cX12_sealed 164 = .ok (.iconst 4, 1) := by decide +kernel
theorem dX12_sealed_165 : decode cX12_sealed 165 = .ok (.invokevirtual 151, 3) := by decide +kernel
theorem dX12_sealed_168 : decode cX12_sealed 168 = .ok (.iconst 0, 1) := by decide +kernel
theorem dX12_sealed_169 : decode cX12_sealed 169 = .ok (.istore 10, 2) := by decide +kernel
theorem dX12_sealed_171 : decode cX12_sealed 171 = .ok (.iload 10, 2) := by decide +kernel
theorem dX12_sealed_173 : decode cX12_sealed 173 = .ok (.aload_n 0, 1) := by decide +kernel
theorem dX12_sealed_174 : decode cX12_sealed 174 = .ok (.getfield 169, 3) := by decide +kernel
theorem dX12_sealed_177 : decode cX12_sealed 177 = .ok (.if_icmp .ge 15, 3) := by decide +kernel
theorem dX12_sealed_180 : decode cX12_sealed 180 = .ok (.aload_n 0, 1) := by decide +kernel
theorem dX12_sealed_181 : decode cX12_sealed 181 = .ok (.iload 10, 2) := by decide +kernel
theorem dX12_sealed_183 : decode cX12_sealed 183 = .ok (.invokevirtual 187, 3) := by decide +kernel
theorem dX12_sealed_186 : decode cX12_sealed 186 = .ok (.iinc 10 1, 3) := by decide +kernel
theorem dX12_sealed_189 : decode cX12_sealed 189 = .ok (.goto (-18), 3) := by decide +kernel
theorem dX12_sealed_192 : decode cX12_sealed 192 = .ok (.aload_n 0, 1) := by decide +kernel
theorem dX12_sealed_193 : decode cX12_sealed 193 = .ok (.getfield 13, 3) := by decide +kernel
theorem dX12_sealed_196 : decode cX12_sealed 196 = .ok (.iload 7, 2) := by decide +kernel
theorem dX12_sealed_198 : decode cX12_sealed 198 = .ok (.bipush 17, 2) := by decide +kernel
theorem dX12_sealed_200 : decode cX12_sealed 200 = .ok (.iadd, 1) := by decide +kernel
theorem dX12_sealed_201 : decode cX12_sealed 201 = .ok (.aload_n 0, 1) := by decide +kernel
theorem dX12_sealed_202 : decode cX12_sealed 202 = .ok (.getfield 13, 3) := by decide +kernel
theorem dX12_sealed_205 : decode cX12_sealed 205 = .ok (.iload 7, 2) := by decide +kernel
theorem dX12_sealed_207 : decode cX12_sealed 207 = .ok (.bipush 21, 2) := by decide +kernel
theorem dX12_sealed_209 : decode cX12_sealed 209 = .ok (.iadd, 1) := by decide +kernel
theorem dX12_sealed_210 : decode cX12_sealed 210 = .ok (.aload_n 0, 1) := by decide +kernel
theorem dX12_sealed_211 : decode cX12_sealed 211 = .ok (.getfield 148, 3) := by decide +kernel
theorem dX12_sealed_214 : decode cX12_sealed 214 = .ok (.invokestatic 191, 3) := by decide +kernel
theorem dX12_sealed_217 : decode cX12_sealed 217 = .ok (.iconst 4, 1) := by decide +kernel
theorem dX12_sealed_218 : decode cX12_sealed 218 = .ok (.invokestatic 195, 3) := by decide +kernel
theorem dX12_sealed_221 : decode cX12_sealed 221 = .ok (.aload_n 0, 1) := by decide +kernel
theorem dX12_sealed_222 : decode cX12_sealed 222 = .ok (.iconst 0, 1) := by decide +kernel
theorem dX12_sealed_223 : decode cX12_sealed 223 = .ok (.putfield 169, 3) := by decide +kernel
theorem dX12_sealed_226 : decode cX12_sealed 226 = .ok (.return_, 1) := by decide +kernel
theorem dX12_seal_0 : decode cX12_seal 0 = .ok (.aload_n 0, 1) := by decide +kernel
theorem dX12_seal_1 : decode cX12_seal 1 = .ok (.lload 5, 2) := by decide +kernel
theorem dX12_seal_3 : decode cX12_seal 3 = .ok (.lconst 0, 1) := by decide +kernel
theorem dX12_seal_4 : decode cX12_seal 4 = .ok (.lcmp, 1) := by decide +kernel
theorem dX12_seal_5 : decode cX12_seal 5 = .ok (.ifCond .lt 12, 3) := by decide +kernel
theorem dX12_seal_8 : decode cX12_seal 8 = .ok (.lload 5, 2) := by decide +kernel
theorem dX12_seal_10 : decode cX12_seal 10 = .ok (.ldc2_w 199, 3) := by decide +kernel
theorem dX12_seal_13 : decode cX12_seal 13 = .ok (.lcmp, 1) := by decide +kernel
theorem dX12_seal_14 : decode cX12_seal 14 = .ok (.ifCond .le 7, 3) := by decide +kernel
theorem dX12_seal_17 : decode cX12_seal 17 = .ok (.iconst 1, 1) := by decide +kernel
theorem dX12_seal_18 : decode cX12_seal 18 = .ok (.goto 26, 3) := by decide +kernel
theorem dX12_seal_21 : decode cX12_seal 21 = .ok (.aload_n 0, 1) := by decide +kernel
theorem dX12_seal_22 : decode cX12_seal 22 = .ok (.getfield 148, 3) := by decide +kernel
theorem dX12_seal_25 : decode cX12_seal 25 = .ok (.bipush 61, 2) := by decide +kernel
theorem dX12_seal_27 : decode cX12_seal 27 = .ok (.iadd, 1) := by decide +kernel
theorem dX12_seal_28 : decode cX12_seal 28 = .ok (.aload_n 0, 1) := by decide +kernel
theorem dX12_seal_29 : decode cX12_seal 29 = .ok (.invokevirtual 177, 3) := by decide +kernel
theorem dX12_seal_32 : decode cX12_seal 32 = .ok (.iadd, 1) := by decide +kernel
theorem dX12_seal_33 : decode cX12_seal 33 = .ok (.sipush 16384, 3) := by decide +kernel
theorem dX12_seal_36 : decode cX12_seal 36 = .ok (.if_icmp .le 7, 3) := by decide +kernel
theorem dX12_seal_39 : decode cX12_seal 39 = .ok (.iconst 2, 1) := by decide +kernel
theorem dX12_seal_40 : decode cX12_seal 40 = .ok (.goto 4, 3) := by decide +kernel
theorem dX12_seal_43 : decode cX12_seal 43 = .ok (.iconst 0, 1) := by decide +kernel
theorem dX12_seal_44 : decode cX12_seal 44 = .ok (.putfield 145, 3) := by decide +kernel
theorem dX12_seal_47 : decode cX12_seal 47 = .ok (.aload_n 0, 1) := by decide +kernel
theorem dX12_seal_48 : decode cX12_seal 48 = .ok (.getfield 145, 3) := by decide +kernel
theorem dX12_seal_51 : decode cX12_seal 51 = .ok (.ifCond .le 5, 3) := by decide +kernel
theorem dX12_seal_54 : decode cX12_seal 54 = .ok (.iconst 0, 1) := by decide +kernel
theorem dX12_seal_55 : decode cX12_seal 55 = .ok (.ireturn, 1) := by decide +kernel
theorem dX12_seal_56 : decode cX12_seal 56 = .ok (.aload_n 0, 1) := by decide +kernel
theorem dX12_seal_57 : decode cX12_seal 57 = .ok (.lload_n 1, 1) := by decide +kernel
theorem dX12_seal_58 : decode cX12_seal 58 = .ok (.iload_n 3, 1) := by decide +kernel
theorem dX12_seal_59 : decode cX12_seal 59 = .ok (.iload 4, 2) := by decide +kernel
theorem dX12_seal_61 : decode cX12_seal 61 = .ok (.lload 5, 2) := by decide +kernel
theorem dX12_seal_63 : decode cX12_seal 63 = .ok (.invokevirtual 201, 3) := by decide +kernel
theorem dX12_seal_66 : decode cX12_seal 66 = .ok (.aload_n 0, 1) := by decide +kernel
theorem dX12_seal_67 : decode cX12_seal 67 = .ok (.getfield 148, 3) := by decide +kernel
theorem dX12_seal_70 : decode cX12_seal 70 = .ok (.ireturn, 1) := by decide +kernel
theorem dX12_number_0 : decode cX12_number 0 = .ok (.aload_n 0, 1) := by decide +kernel
theorem dX12_number_1 : decode cX12_number 1 = .ok (.iload_n 1, 1) := by decide +kernel
theorem dX12_number_2 : decode cX12_number 2 = .ok (.iaload, 1) := by decide +kernel
theorem dX12_number_3 : decode cX12_number 3 = .ok (.bipush 127, 2) := by decide +kernel
theorem dX12_number_5 : decode cX12_number 5 = .ok (.if_icmp .le 9, 3) := by decide +kernel
theorem dX12_number_8 : decode cX12_number 8 = .ok (.ldc2_w 205, 3) := by decide +kernel
theorem dX12_number_11 : decode cX12_number 11 = .ok (.goto 4, 3) := by decide +kernel
theorem dX12_number_14 : decode cX12_number 14 = .ok (.lconst 0, 1) := by decide +kernel
theorem dX12_number_15 : decode cX12_number 15 = .ok (.lstore_n 3, 1) := by decide +kernel
theorem dX12_number_16 : decode cX12_number 16 = .ok (.iconst 0, 1) := by decide +kernel
theorem dX12_number_17 : decode cX12_number 17 = .ok (.istore 5, 2) := by decide +kernel
theorem dX12_number_19 : decode cX12_number 19 = .ok (.iload 5, 2) := by decide +kernel
theorem dX12_number_21 : decode cX12_number 21 = .ok (.iload_n 2, 1) := by decide +kernel
theorem dX12_number_22 : decode cX12_number 22 = .ok (.if_icmp .ge 22, 3) := by decide +kernel
theorem dX12_number_25 : decode cX12_number 25 = .ok (.lload_n 3, 1) := by decide +kernel
theorem dX12_number_26 : decode cX12_number 26 = .ok (.bipush 8, 2) := by decide +kernel
theorem dX12_number_28 : decode cX12_number 28 = .ok (.lshl, 1) := by decide +kernel
theorem dX12_number_29 : decode cX12_number 29 = .ok (.aload_n 0, 1) := by decide +kernel
theorem dX12_number_30 : decode cX12_number 30 = .ok (.iload_n 1, 1) := by decide +kernel
theorem dX12_number_31 : decode cX12_number 31 = .ok (.iload 5, 2) := by decide +kernel
theorem dX12_number_33 : decode cX12_number 33 = .ok (.iadd, 1) := by decide +kernel
theorem dX12_number_34 : decode cX12_number 34 = .ok (.iaload, 1) := by decide +kernel
theorem dX12_number_35 : decode cX12_number 35 = .ok (.i2l, 1) := by decide +kernel
theorem dX12_number_36 : decode cX12_number 36 = .ok (.lor, 1) := by decide +kernel
theorem dX12_number_37 : decode cX12_number 37 = .ok (.lstore_n 3, 1) := by decide +kernel
theorem dX12_number_38 : decode cX12_number 38 = .ok (.iinc 5 1, 3) := by decide +kernel
theorem dX12_number_41 : decode cX12_number 41 = .ok (.goto (-22), 3) := by decide +kernel
theorem dX12_number_44 : decode cX12_number 44 = .ok (.lload_n 3, 1) := by decide +kernel
theorem dX12_number_45 : decode cX12_number 45 = .ok (.lreturn, 1) := by decide +kernel
theorem dX12_begin_0 : decode cX12_begin 0 = .ok (.lconst 0, 1) := by decide +kernel
theorem dX12_begin_1 : decode cX12_begin 1 = .ok (.lstore 4, 2) := by decide +kernel
theorem dX12_begin_3 : decode cX12_begin 3 = .ok (.iconst 0, 1) := by decide +kernel
theorem dX12_begin_4 : decode cX12_begin 4 = .ok (.istore 6, 2) := by decide +kernel
theorem dX12_begin_6 : decode cX12_begin 6 = .ok (.iload 6, 2) := by decide +kernel
theorem dX12_begin_8 : decode cX12_begin 8 = .ok (.i2l, 1) := by decide +kernel
theorem dX12_begin_9 : decode cX12_begin 9 = .ok (.lload_n 2, 1) := by decide +kernel
theorem dX12_begin_10 : decode cX12_begin 10 = .ok (.lcmp, 1) := by decide +kernel
theorem dX12_begin_11 : decode cX12_begin 11 = .ok (.ifCond .ge 31, 3) := by decide +kernel
theorem dX12_begin_14 : decode cX12_begin 14 = .ok (.iload 6, 2) := by decide +kernel
theorem dX12_begin_16 : decode cX12_begin 16 = .ok (.bipush 8, 2) := by decide +kernel
theorem dX12_begin_18 : decode cX12_begin 18 = .ok (.if_icmp .ge 24, 3) := by decide +kernel
theorem dX12_begin_21 : decode cX12_begin 21 = .ok (.lload 4, 2) := by decide +kernel
theorem dX12_begin_23 : decode cX12_begin 23 = .ok (.bipush 8, 2) := by decide +kernel
theorem dX12_begin_25 : decode cX12_begin 25 = .ok (.lshl, 1) := by decide +kernel
theorem dX12_begin_26 : decode cX12_begin 26 = .ok (.aload_n 0, 1) := by decide +kernel
theorem dX12_begin_27 : decode cX12_begin 27 = .ok (.iload_n 1, 1) := by decide +kernel
theorem dX12_begin_28 : decode cX12_begin 28 = .ok (.iload 6, 2) := by decide +kernel
theorem dX12_begin_30 : decode cX12_begin 30 = .ok (.iadd, 1) := by decide +kernel
theorem dX12_begin_31 : decode cX12_begin 31 = .ok (.iaload, 1) := by decide +kernel
theorem dX12_begin_32 : decode cX12_begin 32 = .ok (.i2l, 1) := by decide +kernel
theorem dX12_begin_33 : decode cX12_begin 33 = .ok (.lor, 1) := by decide +kernel
theorem dX12_begin_34 : decode cX12_begin 34 = .ok (.lstore 4, 2) := by decide +kernel
theorem dX12_begin_36 : decode cX12_begin 36 = .ok (.iinc 6 1, 3) := by decide +kernel
theorem dX12_begin_39 : decode cX12_begin 39 = .ok (.goto (-33), 3) := by decide +kernel
theorem dX12_begin_42 : decode cX12_begin 42 = .ok (.lload 4, 2) := by decide +kernel
theorem dX12_begin_44 : decode cX12_begin 44 = .ok (.lreturn, 1) := by decide +kernel
theorem dX12_readVarint_0 : decode cX12_readVarint 0 = .ok (.lconst 0, 1) := by decide +kernel
theorem dX12_readVarint_1 : decode cX12_readVarint 1 = .ok (.lstore_n 1, 1) := by decide +kernel
theorem dX12_readVarint_2 : decode cX12_readVarint 2 = .ok (.iconst 0, 1) := by decide +kernel
theorem dX12_readVarint_3 : decode cX12_readVarint 3 = .ok (.istore_n 3, 1) := by decide +kernel
theorem dX12_readVarint_4 : decode cX12_readVarint 4 = .ok (.iconst 1, 1) := by decide +kernel
theorem dX12_readVarint_5 : decode cX12_readVarint 5 = .ok (.istore 4, 2) := by decide +kernel
theorem dX12_readVarint_7 : decode cX12_readVarint 7 = .ok (.iload 4, 2) := by decide +kernel
theorem dX12_readVarint_9 : decode cX12_readVarint 9 = .ok (.ifCond .eq 133, 3) := by decide +kernel
theorem dX12_readVarint_12 : decode cX12_readVarint 12 = .ok (.aload_n 0, 1) := by decide +kernel
theorem dX12_readVarint_13 : decode cX12_readVarint 13 = .ok (.getfield 207, 3) := by decide +kernel
theorem dX12_readVarint_16 : decode cX12_readVarint 16 = .ok (.ifCond .eq 126, 3) := by decide +kernel
theorem dX12_readVarint_19 : decode cX12_readVarint 19 = .ok (.aload_n 0, 1) := by decide +kernel
theorem dX12_readVarint_20 : decode cX12_readVarint 20 = .ok (.aload_n 0, 1) := by decide +kernel
theorem dX12_readVarint_21 : decode cX12_readVarint 21 = .ok (.getfield 211, 3) := by decide +kernel
theorem dX12_readVarint_24 : decode cX12_readVarint 24 = .ok (.aload_n 0, 1) := by decide +kernel
theorem dX12_readVarint_25 : decode cX12_readVarint 25 = .ok (.getfield 214, 3) := by decide +kernel
theorem dX12_readVarint_28 : decode cX12_readVarint 28 = .ok (.if_icmp .ge 13, 3) := by decide +kernel
theorem dX12_readVarint_31 : decode cX12_readVarint 31 = .ok (.iload_n 3, 1) := by decide +kernel
theorem dX12_readVarint_32 : decode cX12_readVarint 32 = .ok (.bipush 10, 2) := by decide +kernel
theorem dX12_readVarint_34 : decode cX12_readVarint 34 = .ok (.if_icmp .ge 7, 3) := by decide +kernel
theorem dX12_readVarint_37 : decode cX12_readVarint 37 = .ok (.iconst 1, 1) := by decide +kernel
theorem dX12_readVarint_38 : decode cX12_readVarint 38 = .ok (.goto 4, 3) := by decide +kernel
theorem dX12_readVarint_41 : decode cX12_readVarint 41 = .ok (.iconst 0, 1) := by decide +kernel
theorem dX12_readVarint_42 : decode cX12_readVarint 42 = .ok (.putfield 207, 3) := by decide +kernel
theorem dX12_readVarint_45 : decode cX12_readVarint 45 = .ok (.aload_n 0, 1) := by decide +kernel
theorem dX12_readVarint_46 : decode cX12_readVarint 46 = .ok (.getfield 207, 3) := by decide +kernel
theorem dX12_readVarint_49 : decode cX12_readVarint 49 = .ok (.ifCond .eq (-42), 3) := by decide +kernel
theorem dX12_readVarint_52 : decode cX12_readVarint 52 = .ok (.aload_n 0, 1) := by decide +kernel
theorem dX12_readVarint_53 : decode cX12_readVarint 53 = .ok (.getfield 93, 3) := by decide +kernel
theorem dX12_readVarint_56 : decode cX12_readVarint 56 = .ok (.aload_n 0, 1) := by decide +kernel
theorem dX12_readVarint_57 : decode cX12_readVarint 57 = .ok (.getfield 211, 3) := by decide +kernel
theorem dX12_readVarint_60 : decode cX12_readVarint 60 = .ok (.iaload, 1) := by decide +kernel
theorem dX12_readVarint_61 : decode cX12_readVarint 61 = .ok (.istore 5, 2) := by decide +kernel
theorem dX12_readVarint_63 : decode cX12_readVarint 63 = .ok (.aload_n 0, 1) := by decide +kernel
theorem dX12_readVarint_64 : decode cX12_readVarint 64 = .ok (.dup, 1) := by decide +kernel
theorem dX12_readVarint_65 : decode cX12_readVarint 65 = .ok (.getfield 211, 3) := by decide +kernel
theorem dX12_readVarint_68 : decode cX12_readVarint 68 = .ok (.iconst 1, 1) := by decide +kernel
theorem dX12_readVarint_69 : decode cX12_readVarint 69 = .ok (.iadd, 1) := by decide +kernel
theorem dX12_readVarint_70 : decode cX12_readVarint 70 = .ok (.putfield 211, 3) := by decide +kernel
theorem dX12_readVarint_73 : decode cX12_readVarint 73 = .ok (.iload 5, 2) := by decide +kernel
theorem dX12_readVarint_75 : decode cX12_readVarint 75 = .ok (.bipush 127, 2) := by decide +kernel
theorem dX12_readVarint_77 : decode cX12_readVarint 77 = .ok (.if_icmp .le 7, 3) := by decide +kernel
theorem dX12_readVarint_80 : decode cX12_readVarint 80 = .ok (.iconst 1, 1) := by decide +kernel
theorem dX12_readVarint_81 : decode cX12_readVarint 81 = .ok (.goto 4, 3) := by decide +kernel
theorem dX12_readVarint_84 : decode cX12_readVarint 84 = .ok (.iconst 0, 1) := by decide +kernel
theorem dX12_readVarint_85 : decode cX12_readVarint 85 = .ok (.istore 4, 2) := by decide +kernel
theorem dX12_readVarint_87 : decode cX12_readVarint 87 = .ok (.aload_n 0, 1) := by decide +kernel
theorem dX12_readVarint_88 : decode cX12_readVarint 88 = .ok (.iload_n 3, 1) := by decide +kernel
theorem dX12_readVarint_89 : decode cX12_readVarint 89 = .ok (.bipush 9, 2) := by decide +kernel
theorem dX12_readVarint_91 : decode cX12_readVarint 91 = .ok (.if_icmp .lt 9, 3) := by decide +kernel
theorem dX12_readVarint_94 : decode cX12_readVarint 94 = .ok (.iload 5, 2) := by decide +kernel
theorem dX12_readVarint_96 : decode cX12_readVarint 96 = .ok (.iconst 2, 1) := by decide +kernel
theorem dX12_readVarint_97 : decode cX12_readVarint 97 = .ok (.if_icmp .ge 21, 3) := by decide +kernel
theorem dX12_readVarint_100 : decode cX12_readVarint 100 = .ok (.iload 4, 2) := by decide +kernel
theorem dX12_readVarint_102 : decode cX12_readVarint 102 = .ok (.ifCond .ne 12, 3) := by decide +kernel
theorem dX12_readVarint_105 : decode cX12_readVarint 105 = .ok (.iload 5, 2) := by decide +kernel
theorem dX12_readVarint_107 : decode cX12_readVarint 107 = .ok (.ifCond .gt 7, 3) := by decide +kernel
theorem dX12_readVarint_110 : decode cX12_readVarint 110 = .ok (.iload_n 3, 1) := by decide +kernel
theorem dX12_readVarint_111 : decode cX12_readVarint 111 = .ok (.ifCond .ne 7, 3) := by decide +kernel
theorem dX12_readVarint_114 : decode cX12_readVarint 114 = .ok (.iconst 1, 1) := by decide +kernel
theorem dX12_readVarint_115 : decode cX12_readVarint 115 = .ok (.goto 4, 3) := by decide +kernel
theorem dX12_readVarint_118 : decode cX12_readVarint 118 = .ok (.iconst 0, 1) := by decide +kernel
theorem dX12_readVarint_119 : decode cX12_readVarint 119 = .ok (.putfield 207, 3) := by decide +kernel
theorem dX12_readVarint_122 : decode cX12_readVarint 122 = .ok (.lload_n 1, 1) := by decide +kernel
theorem dX12_readVarint_123 : decode cX12_readVarint 123 = .ok (.iload 5, 2) := by decide +kernel
theorem dX12_readVarint_125 : decode cX12_readVarint 125 = .ok (.bipush 127, 2) := by decide +kernel
theorem dX12_readVarint_127 : decode cX12_readVarint 127 = .ok (.iand, 1) := by decide +kernel
theorem dX12_readVarint_128 : decode cX12_readVarint 128 = .ok (.i2l, 1) := by decide +kernel
theorem dX12_readVarint_129 : decode cX12_readVarint 129 = .ok (.bipush 7, 2) := by decide +kernel
theorem dX12_readVarint_131 : decode cX12_readVarint 131 = .ok (.iload_n 3, 1) := by decide +kernel
theorem dX12_readVarint_132 : decode cX12_readVarint 132 = .ok (.imul, 1) := by decide +kernel
theorem dX12_readVarint_133 : decode cX12_readVarint 133 = .ok (.lshl, 1) := by decide +kernel
theorem dX12_readVarint_134 : decode cX12_readVarint 134 = .ok (.lor, 1) := by decide +kernel
theorem dX12_readVarint_135 : decode cX12_readVarint 135 = .ok (.lstore_n 1, 1) := by decide +kernel
theorem dX12_readVarint_136 : decode cX12_readVarint 136 = .ok (.iinc 3 1, 3) := by decide +kernel
theorem dX12_readVarint_139 : decode cX12_readVarint 139 = .ok (.goto (-132), 3) := by decide +kernel
theorem dX12_readVarint_142 : decode cX12_readVarint 142 = .ok (.lload_n 1, 1) := by decide +kernel
theorem dX12_readVarint_143 : decode cX12_readVarint 143 = .ok (.iconst 1, 1) := by decide +kernel
theorem dX12_readVarint_144 : decode cX12_readVarint 144 = .ok (.lushr, 1) := by decide +kernel
theorem dX12_readVarint_145 : decode cX12_readVarint 145 = .ok (.lstore 5, 2) := by decide +kernel
theorem dX12_readVarint_147 : decode cX12_readVarint 147 = .ok (.lload_n 1, 1) := by decide +kernel
theorem dX12_readVarint_148 : decode cX12_readVarint 148 = .ok (.lconst 1, 1) := by decide +kernel
theorem dX12_readVarint_149 : decode cX12_readVarint 149 = .ok (.land, 1) := by decide +kernel
theorem dX12_readVarint_150 : decode cX12_readVarint 150 = .ok (.lconst 0, 1) := by decide +kernel
theorem dX12_readVarint_151 : decode cX12_readVarint 151 = .ok (.lcmp, 1) := by decide +kernel
theorem dX12_readVarint_152 : decode cX12_readVarint 152 = .ok (.ifCond .ne 8, 3) := by decide +kernel
theorem dX12_readVarint_155 : decode cX12_readVarint 155 = .ok (.lload 5, 2) := by decide +kernel
theorem dX12_readVarint_157 : decode cX12_readVarint 157 = .ok (.goto 8, 3) := by decide +kernel
theorem dX12_readVarint_160 : decode cX12_readVarint 160 = .ok (.lload 5, 2) := by decide +kernel
theorem dX12_readVarint_162 : decode cX12_readVarint 162 = .ok (.lneg, 1) := by decide +kernel
theorem dX12_readVarint_163 : decode cX12_readVarint 163 = .ok (.lconst 1, 1) := by decide +kernel
theorem dX12_readVarint_164 : decode cX12_readVarint 164 = .ok (.lsub, 1) := by decide +kernel
theorem dX12_readVarint_165 : decode cX12_readVarint 165 = .ok (.lreturn, 1) := by decide +kernel
theorem dX12_readZero_0 : decode cX12_readZero 0 = .ok (.aload_n 0, 1) := by decide +kernel
theorem dX12_readZero_1 : decode cX12_readZero 1 = .ok (.aload_n 0, 1) := by decide +kernel
theorem dX12_readZero_2 : decode cX12_readZero 2 = .ok (.getfield 207, 3) := by decide +kernel
theorem dX12_readZero_5 : decode cX12_readZero 5 = .ok (.ifCond .eq 30, 3) := by decide +kernel
theorem dX12_readZero_8 : decode cX12_readZero 8 = .ok (.aload_n 0, 1) := by decide +kernel
theorem dX12_readZero_9 : decode cX12_readZero 9 = .ok (.getfield 211, 3) := by decide +kernel
theorem dX12_readZero_12 : decode cX12_readZero 12 = .ok (.aload_n 0, 1) := by decide +kernel
theorem dX12_readZero_13 : decode cX12_readZero 13 = .ok (.getfield 214, 3) := by decide +kernel
theorem dX12_readZero_16 : decode cX12_readZero 16 = .ok (.if_icmp .ge 19, 3) := by decide +kernel
theorem dX12_readZero_19 : decode cX12_readZero 19 = .ok (.aload_n 0, 1) := by decide +kernel
theorem dX12_readZero_20 : decode cX12_readZero 20 = .ok (.getfield 93, 3) := by decide +kernel
theorem dX12_readZero_23 : decode cX12_readZero 23 = .ok (.aload_n 0, 1) := by decide +kernel
theorem dX12_readZero_24 : decode cX12_readZero 24 = .ok (.getfield 211, 3) := by decide +kernel
theorem dX12_readZero_27 : decode cX12_readZero 27 = .ok (.iaload, 1) := by decide +kernel
theorem dX12_readZero_28 : decode cX12_readZero 28 = .ok (.ifCond .ne 7, 3) := by decide +kernel
theorem dX12_readZero_31 : decode cX12_readZero 31 = .ok (.iconst 1, 1) := by decide +kernel
theorem dX12_readZero_32 : decode cX12_readZero 32 = .ok (.goto 4, 3) := by decide +kernel
theorem dX12_readZero_35 : decode cX12_readZero 35 = .ok (.iconst 0, 1) := by decide +kernel
theorem dX12_readZero_36 : decode cX12_readZero 36 = .ok (.putfield 207, 3) := by decide +kernel
theorem dX12_readZero_39 : decode cX12_readZero 39 = .ok (.aload_n 0, 1) := by decide +kernel
theorem dX12_readZero_40 : decode cX12_readZero 40 = .ok (.dup, 1) := by decide +kernel
theorem dX12_readZero_41 : decode cX12_readZero 41 = .ok (.getfield 211, 3) := by decide +kernel
theorem dX12_readZero_44 : decode cX12_readZero 44 = .ok (.iconst 1, 1) := by decide +kernel
theorem dX12_readZero_45 : decode cX12_readZero 45 = .ok (.iadd, 1) := by decide +kernel
theorem dX12_readZero_46 : decode cX12_readZero 46 = .ok (.putfield 211, 3) := by decide +kernel
theorem dX12_readZero_49 : decode cX12_readZero 49 = .ok (.return_, 1) := by decide +kernel
theorem dX12_readBytes_0 : decode cX12_readBytes 0 = .ok (.aload_n 0, 1) := by decide +kernel
theorem dX12_readBytes_1 : decode cX12_readBytes 1 = .ok (.invokevirtual 217, 3) := by decide +kernel
theorem dX12_readBytes_4 : decode cX12_readBytes 4 = .ok (.lstore_n 1, 1) := by decide +kernel
theorem dX12_readBytes_5 : decode cX12_readBytes 5 = .ok (.aload_n 0, 1) := by decide +kernel
theorem dX12_readBytes_6 : decode cX12_readBytes 6 = .ok (.aload_n 0, 1) := by decide +kernel
theorem dX12_readBytes_7 : decode cX12_readBytes 7 = .ok (.getfield 207, 3) := by decide +kernel
theorem dX12_readBytes_10 : decode cX12_readBytes 10 = .ok (.ifCond .eq 30, 3) := by decide +kernel
theorem dX12_readBytes_13 : decode cX12_readBytes 13 = .ok (.lload_n 1, 1) := by decide +kernel
theorem dX12_readBytes_14 : decode cX12_readBytes 14 = .ok (.ldc2_w 205, 3) := by decide +kernel
theorem dX12_readBytes_17 : decode cX12_readBytes 17 = .ok (.lcmp, 1) := by decide +kernel
theorem dX12_readBytes_18 : decode cX12_readBytes 18 = .ok (.ifCond .lt 22, 3) := by decide +kernel
theorem dX12_readBytes_21 : decode cX12_readBytes 21 = .ok (.lload_n 1, 1) := by decide +kernel
theorem dX12_readBytes_22 : decode cX12_readBytes 22 = .ok (.aload_n 0, 1) := by decide +kernel
theorem dX12_readBytes_23 : decode cX12_readBytes 23 = .ok (.getfield 214, 3) := by decide +kernel
theorem dX12_readBytes_26 : decode cX12_readBytes 26 = .ok (.aload_n 0, 1) := by decide +kernel
theorem dX12_readBytes_27 : decode cX12_readBytes 27 = .ok (.getfield 211, 3) := by decide +kernel
theorem dX12_readBytes_30 : decode cX12_readBytes 30 = .ok (.isub, 1) := by decide +kernel
theorem dX12_readBytes_31 : decode cX12_readBytes 31 = .ok (.i2l, 1) := by decide +kernel
theorem dX12_readBytes_32 : decode cX12_readBytes 32 = .ok (.lcmp, 1) := by decide +kernel
theorem dX12_readBytes_33 : decode cX12_readBytes 33 = .ok (.ifCond .gt 7, 3) := by decide +kernel
theorem dX12_readBytes_36 : decode cX12_readBytes 36 = .ok (.iconst 1, 1) := by decide +kernel
theorem dX12_readBytes_37 : decode cX12_readBytes 37 = .ok (.goto 4, 3) := by decide +kernel
theorem dX12_readBytes_40 : decode cX12_readBytes 40 = .ok (.iconst 0, 1) := by decide +kernel
theorem dX12_readBytes_41 : decode cX12_readBytes 41 = .ok (.putfield 207, 3) := by decide +kernel
theorem dX12_readBytes_44 : decode cX12_readBytes 44 = .ok (.aload_n 0, 1) := by decide +kernel
theorem dX12_readBytes_45 : decode cX12_readBytes 45 = .ok (.dup, 1) := by decide +kernel
theorem dX12_readBytes_46 : decode cX12_readBytes 46 = .ok (.getfield 211, 3) := by decide +kernel
theorem dX12_readBytes_49 : decode cX12_readBytes 49 = .ok (.aload_n 0, 1) := by decide +kernel
theorem dX12_readBytes_50 : decode cX12_readBytes 50 = .ok (.getfield 207, 3) := by decide +kernel
theorem dX12_readBytes_53 : decode cX12_readBytes 53 = .ok (.ifCond .eq 14, 3) := by decide +kernel
theorem dX12_readBytes_56 : decode cX12_readBytes 56 = .ok (.lload_n 1, 1) := by decide +kernel
theorem dX12_readBytes_57 : decode cX12_readBytes 57 = .ok (.lconst 0, 1) := by decide +kernel
theorem dX12_readBytes_58 : decode cX12_readBytes 58 = .ok (.lcmp, 1) := by decide +kernel
theorem dX12_readBytes_59 : decode cX12_readBytes 59 = .ok (.ifCond .le 8, 3) := by decide +kernel
theorem dX12_readBytes_62 : decode cX12_readBytes 62 = .ok (.lload_n 1, 1) := by decide +kernel
theorem dX12_readBytes_63 : decode cX12_readBytes 63 = .ok (.l2i, 1) := by decide +kernel
theorem dX12_readBytes_64 : decode cX12_readBytes 64 = .ok (.goto 4, 3) := by decide +kernel
theorem dX12_readBytes_67 : decode cX12_readBytes 67 = .ok (.iconst 0, 1) := by decide +kernel
theorem dX12_readBytes_68 : decode cX12_readBytes 68 = .ok (.iadd, 1) := by decide +kernel
theorem dX12_readBytes_69 : decode cX12_readBytes 69 = .ok (.putfield 211, 3) := by decide +kernel
theorem dX12_readBytes_72 : decode cX12_readBytes 72 = .ok (.lload_n 1, 1) := by decide +kernel
theorem dX12_readBytes_73 : decode cX12_readBytes 73 = .ok (.lreturn, 1) := by decide +kernel
theorem dX12_readRecord_0 : decode cX12_readRecord 0 = .ok (.aload_n 0, 1) := by decide +kernel
theorem dX12_readRecord_1 : decode cX12_readRecord 1 = .ok (.aload_n 0, 1) := by decide +kernel
theorem dX12_readRecord_2 : decode cX12_readRecord 2 = .ok (.getfield 211, 3) := by decide +kernel
theorem dX12_readRecord_5 : decode cX12_readRecord 5 = .ok (.putfield 221, 3) := by decide +kernel
theorem dX12_readRecord_8 : decode cX12_readRecord 8 = .ok (.aload_n 0, 1) := by decide +kernel
theorem dX12_readRecord_9 : decode cX12_readRecord 9 = .ok (.iconst 1, 1) := by decide +kernel
theorem dX12_readRecord_10 : decode cX12_readRecord 10 = .ok (.putfield 207, 3) := by decide +kernel
theorem dX12_readRecord_13 : decode cX12_readRecord 13 = .ok (.aload_n 0, 1) := by decide +kernel
theorem dX12_readRecord_14 : decode cX12_readRecord 14 = .ok (.invokevirtual 217, 3) := by decide +kernel
theorem dX12_readRecord_17 : decode cX12_readRecord 17 = .ok (.lstore_n 3, 1) := by decide +kernel
theorem dX12_readRecord_18 : decode cX12_readRecord 18 = .ok (.aload_n 0, 1) := by decide +kernel
theorem dX12_readRecord_19 : decode cX12_readRecord 19 = .ok (.aload_n 0, 1) := by decide +kernel
theorem dX12_readRecord_20 : decode cX12_readRecord 20 = .ok (.getfield 207, 3) := by decide +kernel
theorem dX12_readRecord_23 : decode cX12_readRecord 23 = .ok (.ifCond .eq 28, 3) := by decide +kernel
theorem dX12_readRecord_26 : decode cX12_readRecord 26 = .ok (.lload_n 3, 1) := by decide +kernel
theorem dX12_readRecord_27 : decode cX12_readRecord 27 = .ok (.lconst 0, 1) := by decide +kernel
theorem dX12_readRecord_28 : decode cX12_readRecord 28 = .ok (.lcmp, 1) := by decide +kernel
theorem dX12_readRecord_29 : decode cX12_readRecord 29 = .ok (.ifCond .lt 22, 3) := by decide +kernel
theorem dX12_readRecord_32 : decode cX12_readRecord 32 = .ok (.lload_n 3, 1) := by decide +kernel
theorem dX12_readRecord_33 : decode cX12_readRecord 33 = .ok (.aload_n 0, 1) := by decide +kernel
theorem dX12_readRecord_34 : decode cX12_readRecord 34 = .ok (.getfield 214, 3) := by decide +kernel
theorem dX12_readRecord_37 : decode cX12_readRecord 37 = .ok (.aload_n 0, 1) := by decide +kernel
theorem dX12_readRecord_38 : decode cX12_readRecord 38 = .ok (.getfield 211, 3) := by decide +kernel
theorem dX12_readRecord_41 : decode cX12_readRecord 41 = .ok (.isub, 1) := by decide +kernel
theorem dX12_readRecord_42 : decode cX12_readRecord 42 = .ok (.i2l, 1) := by decide +kernel
theorem dX12_readRecord_43 : decode cX12_readRecord 43 = .ok (.lcmp, 1) := by decide +kernel
theorem dX12_readRecord_44 : decode cX12_readRecord 44 = .ok (.ifCond .gt 7, 3) := by decide +kernel
theorem dX12_readRecord_47 : decode cX12_readRecord 47 = .ok (.iconst 1, 1) := by decide +kernel
theorem dX12_readRecord_48 : decode cX12_readRecord 48 = .ok (.goto 4, 3) := by decide +kernel
theorem dX12_readRecord_51 : decode cX12_readRecord 51 = .ok (.iconst 0, 1) := by decide +kernel
theorem dX12_readRecord_52 : decode cX12_readRecord 52 = .ok (.putfield 207, 3) := by decide +kernel
theorem dX12_readRecord_55 : decode cX12_readRecord 55 = .ok (.aload_n 0, 1) := by decide +kernel
theorem dX12_readRecord_56 : decode cX12_readRecord 56 = .ok (.getfield 207, 3) := by decide +kernel
theorem dX12_readRecord_59 : decode cX12_readRecord 59 = .ok (.ifCond .ne 5, 3) := by decide +kernel
theorem dX12_readRecord_62 : decode cX12_readRecord 62 = .ok (.iconst 0, 1) := by decide +kernel
theorem dX12_readRecord_63 : decode cX12_readRecord 63 = .ok (.ireturn, 1) := by decide +kernel
theorem dX12_readRecord_64 : decode cX12_readRecord 64 = .ok (.aload_n 0, 1) := by decide +kernel
theorem dX12_readRecord_65 : decode cX12_readRecord 65 = .ok (.getfield 211, 3) := by decide +kernel
theorem dX12_readRecord_68 : decode cX12_readRecord 68 = .ok (.lload_n 3, 1) := by decide +kernel
theorem dX12_readRecord_69 : decode cX12_readRecord 69 = .ok (.l2i, 1) := by decide +kernel
theorem dX12_readRecord_70 : decode cX12_readRecord 70 = .ok (.iadd, 1) := by decide +kernel
theorem dX12_readRecord_71 : decode cX12_readRecord 71 = .ok (.istore 5, 2) := by decide +kernel
theorem dX12_readRecord_73 : decode cX12_readRecord 73 = .ok (.aload_n 0, 1) := by decide +kernel
theorem dX12_readRecord_74 : decode cX12_readRecord 74 = .ok (.invokevirtual 224, 3) := by decide +kernel
theorem dX12_readRecord_77 : decode cX12_readRecord 77 = .ok (.aload_n 0, 1) := by decide +kernel
theorem dX12_readRecord_78 : decode cX12_readRecord 78 = .ok (.lload_n 1, 1) := by decide +kernel
theorem dX12_readRecord_79 : decode cX12_readRecord 79 = .ok (.aload_n 0, 1) := by decide +kernel
theorem dX12_readRecord_80 : decode cX12_readRecord 80 = .ok (.invokevirtual 217, 3) := by decide +kernel
theorem dX12_readRecord_83 : decode cX12_readRecord 83 = .ok (.ladd, 1) := by decide +kernel
theorem dX12_readRecord_84 : decode cX12_readRecord 84 = .ok (.putfield 227, 3) := by decide +kernel
theorem dX12_readRecord_87 : decode cX12_readRecord 87 = .ok (.aload_n 0, 1) := by decide +kernel
theorem dX12_readRecord_88 : decode cX12_readRecord 88 = .ok (.aload_n 0, 1) := by decide +kernel
theorem dX12_readRecord_89 : decode cX12_readRecord 89 = .ok (.getfield 207, 3) := by decide +kernel
theorem dX12_readRecord_92 : decode cX12_readRecord 92 = .ok (.ifCond .eq 27, 3) := by decide +kernel
theorem dX12_readRecord_95 : decode cX12_readRecord 95 = .ok (.aload_n 0, 1) := by decide +kernel
theorem dX12_readRecord_96 : decode cX12_readRecord 96 = .ok (.getfield 227, 3) := by decide +kernel
theorem dX12_readRecord_99 : decode cX12_readRecord 99 = .ok (.lconst 0, 1) := by decide +kernel
theorem dX12_readRecord_100 : decode cX12_readRecord 100 = .ok (.lcmp, 1) := by decide +kernel
theorem dX12_readRecord_101 : decode cX12_readRecord 101 = .ok (.ifCond .lt 18, 3) := by decide +kernel
theorem dX12_readRecord_104 : decode cX12_readRecord 104 = .ok (.aload_n 0, 1) := by decide +kernel
theorem dX12_readRecord_105 : decode cX12_readRecord 105 = .ok (.getfield 227, 3) := by decide +kernel
theorem dX12_readRecord_108 : decode cX12_readRecord 108 = .ok (.ldc2_w 231, 3) := by decide +kernel
theorem dX12_readRecord_111 : decode cX12_readRecord 111 = .ok (.lcmp, 1) := by decide +kernel
theorem dX12_readRecord_112 : decode cX12_readRecord 112 = .ok (.ifCond .gt 7, 3) := by decide +kernel
theorem dX12_readRecord_115 : decode cX12_readRecord 115 = .ok (.iconst 1, 1) := by decide +kernel
theorem dX12_readRecord_116 : decode cX12_readRecord 116 = .ok (.goto 4, 3) := by decide +kernel
theorem dX12_readRecord_119 : decode cX12_readRecord 119 = .ok (.iconst 0, 1) := by decide +kernel
theorem dX12_readRecord_120 : decode cX12_readRecord 120 = .ok (.putfield 207, 3) := by decide +kernel
theorem dX12_readRecord_123 : decode cX12_readRecord 123 = .ok (.aload_n 0, 1) := by decide +kernel
theorem dX12_readRecord_124 : decode cX12_readRecord 124 = .ok (.aload_n 0, 1) := by decide +kernel
theorem dX12_readRecord_125 : decode cX12_readRecord 125 = .ok (.invokevirtual 217, 3) := by decide +kernel
theorem dX12_readRecord_128 : decode cX12_readRecord 128 = .ok (.putfield 233, 3) := by decide +kernel
theorem dX12_readRecord_131 : decode cX12_readRecord 131 = .ok (.aload_n 0, 1) := by decide +kernel
theorem dX12_readRecord_132 : decode cX12_readRecord 132 = .ok (.aload_n 0, 1) := by decide +kernel
theorem dX12_readRecord_133 : decode cX12_readRecord 133 = .ok (.invokevirtual 236, 3) := by decide +kernel
theorem dX12_readRecord_136 : decode cX12_readRecord 136 = .ok (.putfield 239, 3) := by decide +kernel
theorem dX12_readRecord_139 : decode cX12_readRecord 139 = .ok (.aload_n 0, 1) := by decide +kernel
theorem dX12_readRecord_140 : decode cX12_readRecord 140 = .ok (.aload_n 0, 1) := by decide +kernel
theorem dX12_readRecord_141 : decode cX12_readRecord 141 = .ok (.getfield 211, 3) := by decide +kernel
theorem dX12_readRecord_144 : decode cX12_readRecord 144 = .ok (.aload_n 0, 1) := by decide +kernel
theorem dX12_readRecord_145 : decode cX12_readRecord 145 = .ok (.getfield 239, 3) := by decide +kernel
theorem dX12_readRecord_148 : decode cX12_readRecord 148 = .ok (.lconst 0, 1) := by decide +kernel
theorem dX12_readRecord_149 : decode cX12_readRecord 149 = .ok (.lcmp, 1) := by decide +kernel
theorem dX12_readRecord_150 : decode cX12_readRecord 150 = .ok (.ifCond .le 18, 3) := by decide +kernel
theorem dX12_readRecord_153 : decode cX12_readRecord 153 = .ok (.aload_n 0, 1) := by decide +kernel
theorem dX12_readRecord_154 : decode cX12_readRecord 154 = .ok (.getfield 207, 3) := by decide +kernel
theorem dX12_readRecord_157 : decode cX12_readRecord 157 = .ok (.ifCond .eq 11, 3) := by decide +kernel
theorem dX12_readRecord_160 : decode cX12_readRecord 160 = .ok (.aload_n 0, 1) := by decide +kernel
theorem dX12_readRecord_161 : decode cX12_readRecord 161 = .ok (.getfield 239, 3) := by decide +kernel
theorem dX12_readRecord_164 : decode cX12_readRecord 164 = .ok (.l2i, 1) := by decide +kernel
theorem dX12_readRecord_165 : decode cX12_readRecord 165 = .ok (.goto 4, 3) := by decide +kernel
theorem dX12_readRecord_168 : decode cX12_readRecord 168 = .ok (.iconst 0, 1) := by decide +kernel
theorem dX12_readRecord_169 : decode cX12_readRecord 169 = .ok (.isub, 1) := by decide +kernel
theorem dX12_readRecord_170 : decode cX12_readRecord 170 = .ok (.putfield 242, 3) := by decide +kernel
theorem dX12_readRecord_173 : decode cX12_readRecord 173 = .ok (.aload_n 0, 1) := by decide +kernel
theorem dX12_readRecord_174 : decode cX12_readRecord 174 = .ok (.aload_n 0, 1) := by decide +kernel
theorem dX12_readRecord_175 : decode cX12_readRecord 175 = .ok (.invokevirtual 236, 3) := by decide +kernel
theorem dX12_readRecord_178 : decode cX12_readRecord 178 = .ok (.putfield 245, 3) := by decide +kernel
theorem dX12_readRecord_181 : decode cX12_readRecord 181 = .ok (.aload_n 0, 1) := by decide +kernel
theorem dX12_readRecord_182 : decode cX12_readRecord 182 = .ok (.aload_n 0, 1) := by decide +kernel
theorem dX12_readRecord_183 : decode cX12_readRecord 183 = .ok (.getfield 211, 3) := by decide +kernel
theorem dX12_readRecord_186 : decode cX12_readRecord 186 = .ok (.aload_n 0, 1) := by decide +kernel
theorem dX12_readRecord_187 : decode cX12_readRecord 187 = .ok (.getfield 245, 3) := by decide +kernel
theorem dX12_readRecord_190 : decode cX12_readRecord 190 = .ok (.lconst 0, 1) := by decide +kernel
theorem dX12_readRecord_191 : decode cX12_readRecord 191 = .ok (.lcmp, 1) := by decide +kernel
theorem dX12_readRecord_192 : decode cX12_readRecord 192 = .ok (.ifCond .le 18, 3) := by decide +kernel
theorem dX12_readRecord_195 : decode cX12_readRecord 195 = .ok (.aload_n 0, 1) := by decide +kernel
theorem dX12_readRecord_196 : decode cX12_readRecord 196 = .ok (.getfield 207, 3) := by decide +kernel
theorem dX12_readRecord_199 : decode cX12_readRecord 199 = .ok (.ifCond .eq 11, 3) := by decide +kernel
theorem dX12_readRecord_202 : decode cX12_readRecord 202 = .ok (.aload_n 0, 1) := by decide +kernel
theorem dX12_readRecord_203 : decode cX12_readRecord 203 = .ok (.getfield 245, 3) := by decide +kernel
theorem dX12_readRecord_206 : decode cX12_readRecord 206 = .ok (.l2i, 1) := by decide +kernel
theorem dX12_readRecord_207 : decode cX12_readRecord 207 = .ok (.goto 4, 3) := by decide +kernel
theorem dX12_readRecord_210 : decode cX12_readRecord 210 = .ok (.iconst 0, 1) := by decide +kernel
theorem dX12_readRecord_211 : decode cX12_readRecord 211 = .ok (.isub, 1) := by decide +kernel
theorem dX12_readRecord_212 : decode cX12_readRecord 212 = .ok (.putfield 248, 3) := by decide +kernel
theorem dX12_readRecord_215 : decode cX12_readRecord 215 = .ok (.aload_n 0, 1) := by decide +kernel
theorem dX12_readRecord_216 : decode cX12_readRecord 216 = .ok (.invokevirtual 224, 3) := by decide +kernel
theorem dX12_readRecord_219 : decode cX12_readRecord 219 = .ok (.aload_n 0, 1) := by decide +kernel
theorem dX12_readRecord_220 : decode cX12_readRecord 220 = .ok (.getfield 207, 3) := by decide +kernel
theorem dX12_readRecord_223 : decode cX12_readRecord 223 = .ok (.ifCond .eq 16, 3) := by decide +kernel
theorem dX12_readRecord_226 : decode cX12_readRecord 226 = .ok (.aload_n 0, 1) := by decide +kernel
theorem dX12_readRecord_227 : decode cX12_readRecord 227 = .ok (.getfield 211, 3) := by decide +kernel
theorem dX12_readRecord_230 : decode cX12_readRecord 230 = .ok (.iload 5, 2) := by decide +kernel
theorem dX12_readRecord_232 : decode cX12_readRecord 232 = .ok (.if_icmp .ne 7, 3) := by decide +kernel
theorem dX12_readRecord_235 : decode cX12_readRecord 235 = .ok (.iconst 1, 1) := by decide +kernel
theorem dX12_readRecord_236 : decode cX12_readRecord 236 = .ok (.goto 4, 3) := by decide +kernel
theorem dX12_readRecord_239 : decode cX12_readRecord 239 = .ok (.iconst 0, 1) := by decide +kernel
theorem dX12_readRecord_240 : decode cX12_readRecord 240 = .ok (.ireturn, 1) := by decide +kernel
theorem dX12_reads_0 : decode cX12_reads 0 = .ok (.aload_n 0, 1) := by decide +kernel
theorem dX12_reads_1 : decode cX12_reads 1 = .ok (.aload_n 1, 1) := by decide +kernel
theorem dX12_reads_2 : decode cX12_reads 2 = .ok (.putfield 93, 3) := by decide +kernel
theorem dX12_reads_5 : decode cX12_reads 5 = .ok (.aload_n 0, 1) := by decide +kernel
theorem dX12_reads_6 : decode cX12_reads 6 = .ok (.iload_n 2, 1) := by decide +kernel
theorem dX12_reads_7 : decode cX12_reads 7 = .ok (.putfield 211, 3) := by decide +kernel
theorem dX12_reads_10 : decode cX12_reads 10 = .ok (.aload_n 0, 1) := by decide +kernel
theorem dX12_reads_11 : decode cX12_reads 11 = .ok (.iload_n 3, 1) := by decide +kernel
theorem dX12_reads_12 : decode cX12_reads 12 = .ok (.putfield 214, 3) := by decide +kernel
theorem dX12_reads_15 : decode cX12_reads 15 = .ok (.return_, 1) := by decide +kernel
theorem dX12_field_0 : decode cX12_field 0 = .ok (.aload_n 0, 1) := by decide +kernel
theorem dX12_field_1 : decode cX12_field 1 = .ok (.getfield 251, 3) := by decide +kernel
theorem dX12_field_4 : decode cX12_field 4 = .ok (.ifCond .ne 17, 3) := by decide +kernel
theorem dX12_field_7 : decode cX12_field 7 = .ok (.iload_n 1, 1) := by decide +kernel
theorem dX12_field_8 : decode cX12_field 8 = .ok (.ifCond .ne 13, 3) := by decide +kernel
theorem dX12_field_11 : decode cX12_field 11 = .ok (.aload_n 0, 1) := by decide +kernel
theorem dX12_field_12 : decode cX12_field 12 = .ok (.iconst 2, 1) := by decide +kernel
theorem dX12_field_13 : decode cX12_field 13 = .ok (.putfield 251, 3) := by decide +kernel
theorem dX12_field_16 : decode cX12_field 16 = .ok (.aload_n 0, 1) := by decide +kernel
theorem dX12_field_17 : decode cX12_field 17 = .ok (.iload_n 2, 1) := by decide +kernel
theorem dX12_field_18 : decode cX12_field 18 = .ok (.putfield 254, 3) := by decide +kernel
theorem dX12_field_21 : decode cX12_field 21 = .ok (.return_, 1) := by decide +kernel
theorem dX12_readHead_0 : decode cX12_readHead 0 = .ok (.aload_n 0, 1) := by decide +kernel
theorem dX12_readHead_1 : decode cX12_readHead 1 = .ok (.getfield 13, 3) := by decide +kernel
theorem dX12_readHead_4 : decode cX12_readHead 4 = .ok (.bipush 57, 2) := by decide +kernel
theorem dX12_readHead_6 : decode cX12_readHead 6 = .ok (.iconst 4, 1) := by decide +kernel
theorem dX12_readHead_7 : decode cX12_readHead 7 = .ok (.invokestatic 257, 3) := by decide +kernel
theorem dX12_readHead_10 : decode cX12_readHead 10 = .ok (.lstore_n 1, 1) := by decide +kernel
theorem dX12_readHead_11 : decode cX12_readHead 11 = .ok (.aload_n 0, 1) := by decide +kernel
theorem dX12_readHead_12 : decode cX12_readHead 12 = .ok (.getfield 13, 3) := by decide +kernel
theorem dX12_readHead_15 : decode cX12_readHead 15 = .ok (.bipush 43, 2) := by decide +kernel
theorem dX12_readHead_17 : decode cX12_readHead 17 = .ok (.bipush 8, 2) := by decide +kernel
theorem dX12_readHead_19 : decode cX12_readHead 19 = .ok (.invokestatic 257, 3) := by decide +kernel
theorem dX12_readHead_22 : decode cX12_readHead 22 = .ok (.lstore_n 3, 1) := by decide +kernel
theorem dX12_readHead_23 : decode cX12_readHead 23 = .ok (.aload_n 0, 1) := by decide +kernel
theorem dX12_readHead_24 : decode cX12_readHead 24 = .ok (.aload_n 0, 1) := by decide +kernel
theorem dX12_readHead_25 : decode cX12_readHead 25 = .ok (.getfield 13, 3) := by decide +kernel
theorem dX12_readHead_28 : decode cX12_readHead 28 = .ok (.iconst 0, 1) := by decide +kernel
theorem dX12_readHead_29 : decode cX12_readHead 29 = .ok (.bipush 8, 2) := by decide +kernel
theorem dX12_readHead_31 : decode cX12_readHead 31 = .ok (.invokestatic 257, 3) := by decide +kernel
theorem dX12_readHead_34 : decode cX12_readHead 34 = .ok (.lconst 0, 1) := by decide +kernel
theorem dX12_readHead_35 : decode cX12_readHead 35 = .ok (.lcmp, 1) := by decide +kernel
theorem dX12_readHead_36 : decode cX12_readHead 36 = .ok (.ifCond .ne 7, 3) := by decide +kernel
theorem dX12_readHead_39 : decode cX12_readHead 39 = .ok (.iconst 1, 1) := by decide +kernel
theorem dX12_readHead_40 : decode cX12_readHead 40 = .ok (.goto 4, 3) := by decide +kernel
theorem dX12_readHead_43 : decode cX12_readHead 43 = .ok (.iconst 0, 1) := by decide +kernel
theorem dX12_readHead_44 : decode cX12_readHead 44 = .ok (.iconst 0, 1) := by decide +kernel
theorem dX12_readHead_45 : decode cX12_readHead 45 = .ok (.invokevirtual 260, 3) := by decide +kernel
theorem dX12_readHead_48 : decode cX12_readHead 48 = .ok (.aload_n 0, 1) := by decide +kernel
theorem dX12_readHead_49 : decode cX12_readHead 49 = .ok (.aload_n 0, 1) := by decide +kernel
theorem dX12_readHead_50 : decode cX12_readHead 50 = .ok (.getfield 13, 3) := by decide +kernel
theorem dX12_readHead_53 : decode cX12_readHead 53 = .ok (.bipush 12, 2) := by decide +kernel
theorem dX12_readHead_55 : decode cX12_readHead 55 = .ok (.iconst 4, 1) := by decide +kernel
theorem dX12_readHead_56 : decode cX12_readHead 56 = .ok (.invokestatic 257, 3) := by decide +kernel
theorem dX12_readHead_59 : decode cX12_readHead 59 = .ok (.lconst 0, 1) := by decide +kernel
theorem dX12_readHead_60 : decode cX12_readHead 60 = .ok (.lcmp, 1) := by decide +kernel
theorem dX12_readHead_61 : decode cX12_readHead 61 = .ok (.ifCond .ne 7, 3) := by decide +kernel
theorem dX12_readHead_64 : decode cX12_readHead 64 = .ok (.iconst 1, 1) := by decide +kernel
theorem dX12_readHead_65 : decode cX12_readHead 65 = .ok (.goto 4, 3) := by decide +kernel
theorem dX12_readHead_68 : decode cX12_readHead 68 = .ok (.iconst 0, 1) := by decide +kernel
theorem dX12_readHead_69 : decode cX12_readHead 69 = .ok (.bipush 12, 2) := by decide +kernel
theorem dX12_readHead_71 : decode cX12_readHead 71 = .ok (.invokevirtual 260, 3) := by decide +kernel
theorem dX12_readHead_74 : decode cX12_readHead 74 = .ok (.aload_n 0, 1) := by decide +kernel
theorem dX12_readHead_75 : decode cX12_readHead 75 = .ok (.aload_n 0, 1) := by decide +kernel
theorem dX12_readHead_76 : decode cX12_readHead 76 = .ok (.getfield 13, 3) := by decide +kernel
theorem dX12_readHead_79 : decode cX12_readHead 79 = .ok (.bipush 16, 2) := by decide +kernel
theorem dX12_readHead_81 : decode cX12_readHead 81 = .ok (.iaload, 1) := by decide +kernel
theorem dX12_readHead_82 : decode cX12_readHead 82 = .ok (.iconst 2, 1) := by decide +kernel
theorem dX12_readHead_83 : decode cX12_readHead 83 = .ok (.if_icmp .ne 7, 3) := by decide +kernel
theorem dX12_readHead_86 : decode cX12_readHead 86 = .ok (.iconst 1, 1) := by decide +kernel
theorem dX12_readHead_87 : decode cX12_readHead 87 = .ok (.goto 4, 3) := by decide +kernel
theorem dX12_readHead_90 : decode cX12_readHead 90 = .ok (.iconst 0, 1) := by decide +kernel
theorem dX12_readHead_91 : decode cX12_readHead 91 = .ok (.bipush 16, 2) := by decide +kernel
theorem dX12_readHead_93 : decode cX12_readHead 93 = .ok (.invokevirtual 260, 3) := by decide +kernel
theorem dX12_readHead_96 : decode cX12_readHead 96 = .ok (.aload_n 0, 1) := by decide +kernel
theorem dX12_readHead_97 : decode cX12_readHead 97 = .ok (.aload_n 0, 1) := by decide +kernel
theorem dX12_readHead_98 : decode cX12_readHead 98 = .ok (.getfield 13, 3) := by decide +kernel
theorem dX12_readHead_101 : decode cX12_readHead 101 = .ok (.bipush 21, 2) := by decide +kernel
theorem dX12_readHead_103 : decode cX12_readHead 103 = .ok (.iconst 2, 1) := by decide +kernel
theorem dX12_readHead_104 : decode cX12_readHead 104 = .ok (.invokestatic 257, 3) := by decide +kernel
theorem dX12_readHead_107 : decode cX12_readHead 107 = .ok (.lconst 0, 1) := by decide +kernel
theorem dX12_readHead_108 : decode cX12_readHead 108 = .ok (.lcmp, 1) := by decide +kernel
theorem dX12_readHead_109 : decode cX12_readHead 109 = .ok (.ifCond .ne 7, 3) := by decide +kernel
theorem dX12_readHead_112 : decode cX12_readHead 112 = .ok (.iconst 1, 1) := by decide +kernel
theorem dX12_readHead_113 : decode cX12_readHead 113 = .ok (.goto 4, 3) := by decide +kernel
theorem dX12_readHead_116 : decode cX12_readHead 116 = .ok (.iconst 0, 1) := by decide +kernel
theorem dX12_readHead_117 : decode cX12_readHead 117 = .ok (.bipush 21, 2) := by decide +kernel
theorem dX12_readHead_119 : decode cX12_readHead 119 = .ok (.invokevirtual 260, 3) := by decide +kernel
theorem dX12_readHead_122 : decode cX12_readHead 122 = .ok (.aload_n 0, 1) := by decide +kernel
theorem dX12_readHead_123 : decode cX12_readHead 123 = .ok (.aload_n 0, 1) := by decide +kernel
theorem dX12_readHead_124 : decode cX12_readHead 124 = .ok (.getfield 13, 3) := by decide +kernel
theorem dX12_readHead_127 : decode cX12_readHead 127 = .ok (.bipush 23, 2) := by decide +kernel
theorem dX12_readHead_129 : decode cX12_readHead 129 = .ok (.iconst 4, 1) := by decide +kernel
theorem dX12_readHead_130 : decode cX12_readHead 130 = .ok (.invokestatic 257, 3) := by decide +kernel
theorem dX12_readHead_133 : decode cX12_readHead 133 = .ok (.lload_n 1, 1) := by decide +kernel
theorem dX12_readHead_134 : decode cX12_readHead 134 = .ok (.lconst 1, 1) := by decide +kernel
theorem dX12_readHead_135 : decode cX12_readHead 135 = .ok (.lsub, 1) := by decide +kernel
theorem dX12_readHead_136 : decode cX12_readHead 136 = .ok (.lcmp, 1) := by decide +kernel
theorem dX12_readHead_137 : decode cX12_readHead 137 = .ok (.ifCond .ne 7, 3) := by decide +kernel
theorem dX12_readHead_140 : decode cX12_readHead 140 = .ok (.iconst 1, 1) := by decide +kernel
theorem dX12_readHead_141 : decode cX12_readHead 141 = .ok (.goto 4, 3) := by decide +kernel
theorem dX12_readHead_144 : decode cX12_readHead 144 = .ok (.iconst 0, 1) := by decide +kernel
theorem dX12_readHead_145 : decode cX12_readHead 145 = .ok (.bipush 23, 2) := by decide +kernel
theorem dX12_readHead_147 : decode cX12_readHead 147 = .ok (.invokevirtual 260, 3) := by decide +kernel
theorem dX12_readHead_150 : decode cX12_readHead 150 = .ok (.aload_n 0, 1) := by decide +kernel
theorem dX12_readHead_151 : decode cX12_readHead 151 = .ok (.aload_n 0, 1) := by decide +kernel
theorem dX12_readHead_152 : decode cX12_readHead 152 = .ok (.getfield 13, 3) := by decide +kernel
theorem dX12_readHead_155 : decode cX12_readHead 155 = .ok (.bipush 27, 2) := by decide +kernel
theorem dX12_readHead_157 : decode cX12_readHead 157 = .ok (.bipush 8, 2) := by decide +kernel
theorem dX12_readHead_159 : decode cX12_readHead 159 = .ok (.invokestatic 257, 3) := by decide +kernel
theorem dX12_readHead_162 : decode cX12_readHead 162 = .ok (.lconst 0, 1) := by decide +kernel
theorem dX12_readHead_163 : decode cX12_readHead 163 = .ok (.lcmp, 1) := by decide +kernel
theorem dX12_readHead_164 : decode cX12_readHead 164 = .ok (.ifCond .lt 25, 3) := by decide +kernel
theorem dX12_readHead_167 : decode cX12_readHead 167 = .ok (.aload_n 0, 1) := by decide +kernel
theorem dX12_readHead_168 : decode cX12_readHead 168 = .ok (.getfield 13, 3) := by decide +kernel
theorem dX12_readHead_171 : decode cX12_readHead 171 = .ok (.bipush 27, 2) := by decide +kernel
theorem dX12_readHead_173 : decode cX12_readHead 173 = .ok (.bipush 8, 2) := by decide +kernel
theorem dX12_readHead_175 : decode cX12_readHead 175 = .ok (.invokestatic 257, 3) := by decide +kernel
theorem dX12_readHead_178 : decode cX12_readHead 178 = .ok (.ldc2_w 231, 3) := by decide +kernel
theorem dX12_readHead_181 : decode cX12_readHead 181 = .ok (.lcmp, 1) := by decide +kernel
theorem dX12_readHead_182 : decode cX12_readHead 182 = .ok (.ifCond .gt 7, 3) := by decide +kernel
theorem dX12_readHead_185 : decode cX12_readHead 185 = .ok (.iconst 1, 1) := by decide +kernel
theorem dX12_readHead_186 : decode cX12_readHead 186 = .ok (.goto 4, 3) := by decide +kernel
theorem dX12_readHead_189 : decode cX12_readHead 189 = .ok (.iconst 0, 1) := by decide +kernel
theorem dX12_readHead_190 : decode cX12_readHead 190 = .ok (.bipush 27, 2) := by decide +kernel
theorem dX12_readHead_192 : decode cX12_readHead 192 = .ok (.invokevirtual 260, 3) := by decide +kernel
theorem dX12_readHead_195 : decode cX12_readHead 195 = .ok (.aload_n 0, 1) := by decide +kernel
theorem dX12_readHead_196 : decode cX12_readHead 196 = .ok (.aload_n 0, 1) := by decide +kernel
theorem dX12_readHead_197 : decode cX12_readHead 197 = .ok (.getfield 13, 3) := by decide +kernel
theorem dX12_readHead_200 : decode cX12_readHead 200 = .ok (.bipush 35, 2) := by decide +kernel
theorem dX12_readHead_202 : decode cX12_readHead 202 = .ok (.bipush 8, 2) := by decide +kernel
theorem dX12_readHead_204 : decode cX12_readHead 204 = .ok (.invokestatic 257, 3) := by decide +kernel
theorem dX12_readHead_207 : decode cX12_readHead 207 = .ok (.lconst 0, 1) := by decide +kernel
theorem dX12_readHead_208 : decode cX12_readHead 208 = .ok (.lcmp, 1) := by decide +kernel
theorem dX12_readHead_209 : decode cX12_readHead 209 = .ok (.ifCond .lt 25, 3) := by decide +kernel
theorem dX12_readHead_212 : decode cX12_readHead 212 = .ok (.aload_n 0, 1) := by decide +kernel
theorem dX12_readHead_213 : decode cX12_readHead 213 = .ok (.getfield 13, 3) := by decide +kernel
theorem dX12_readHead_216 : decode cX12_readHead 216 = .ok (.bipush 35, 2) := by decide +kernel
theorem dX12_readHead_218 : decode cX12_readHead 218 = .ok (.bipush 8, 2) := by decide +kernel
theorem dX12_readHead_220 : decode cX12_readHead 220 = .ok (.invokestatic 257, 3) := by decide +kernel
theorem dX12_readHead_223 : decode cX12_readHead 223 = .ok (.ldc2_w 231, 3) := by decide +kernel
theorem dX12_readHead_226 : decode cX12_readHead 226 = .ok (.lcmp, 1) := by decide +kernel
theorem dX12_readHead_227 : decode cX12_readHead 227 = .ok (.ifCond .gt 7, 3) := by decide +kernel
theorem dX12_readHead_230 : decode cX12_readHead 230 = .ok (.iconst 1, 1) := by decide +kernel
theorem dX12_readHead_231 : decode cX12_readHead 231 = .ok (.goto 4, 3) := by decide +kernel
theorem dX12_readHead_234 : decode cX12_readHead 234 = .ok (.iconst 0, 1) := by decide +kernel
theorem dX12_readHead_235 : decode cX12_readHead 235 = .ok (.bipush 35, 2) := by decide +kernel
theorem dX12_readHead_237 : decode cX12_readHead 237 = .ok (.invokevirtual 260, 3) := by decide +kernel
theorem dX12_readHead_240 : decode cX12_readHead 240 = .ok (.aload_n 0, 1) := by decide +kernel
theorem dX12_readHead_241 : decode cX12_readHead 241 = .ok (.lload_n 3, 1) := by decide +kernel
theorem dX12_readHead_242 : decode cX12_readHead 242 = .ok (.ldc2_w 205, 3) := by decide +kernel
theorem dX12_readHead_245 : decode cX12_readHead 245 = .ok (.lcmp, 1) := by decide +kernel
theorem dX12_readHead_246 : decode cX12_readHead 246 = .ok (.ifCond .lt 15, 3) := by decide +kernel
theorem dX12_readHead_249 : decode cX12_readHead 249 = .ok (.lload_n 3, 1) := by decide +kernel
theorem dX12_readHead_250 : decode cX12_readHead 250 = .ok (.ldc2_w 231, 3) := by decide +kernel
theorem dX12_readHead_253 : decode cX12_readHead 253 = .ok (.lcmp, 1) := by decide +kernel
theorem dX12_readHead_254 : decode cX12_readHead 254 = .ok (.ifCond .gt 7, 3) := by decide +kernel
theorem dX12_readHead_257 : decode cX12_readHead 257 = .ok (.iconst 1, 1) := by decide +kernel
theorem dX12_readHead_258 : decode cX12_readHead 258 = .ok (.goto 4, 3) := by decide +kernel
theorem dX12_readHead_261 : decode cX12_readHead 261 = .ok (.iconst 0, 1) := by decide +kernel
theorem dX12_readHead_262 : decode cX12_readHead 262 = .ok (.bipush 43, 2) := by decide +kernel
theorem dX12_readHead_264 : decode cX12_readHead 264 = .ok (.invokevirtual 260, 3) := by decide +kernel
theorem dX12_readHead_267 : decode cX12_readHead 267 = .ok (.aload_n 0, 1) := by decide +kernel
theorem dX12_readHead_268 : decode cX12_readHead 268 = .ok (.lload_n 3, 1) := by decide +kernel
theorem dX12_readHead_269 : decode cX12_readHead 269 = .ok (.ldc2_w 205, 3) := by decide +kernel
theorem dX12_readHead_272 : decode cX12_readHead 272 = .ok (.lcmp, 1) := by decide +kernel
theorem dX12_readHead_273 : decode cX12_readHead 273 = .ok (.ifCond .ne 28, 3) := by decide +kernel
theorem dX12_readHead_276 : decode cX12_readHead 276 = .ok (.aload_n 0, 1) := by decide +kernel
theorem dX12_readHead_277 : decode cX12_readHead 277 = .ok (.getfield 13, 3) := by decide +kernel
theorem dX12_readHead_280 : decode cX12_readHead 280 = .ok (.bipush 51, 2) := by decide +kernel
theorem dX12_readHead_282 : decode cX12_readHead 282 = .ok (.iconst 2, 1) := by decide +kernel
theorem dX12_readHead_283 : decode cX12_readHead 283 = .ok (.invokestatic 257, 3) := by decide +kernel
theorem dX12_readHead_286 : decode cX12_readHead 286 = .ok (.ldc2_w 205, 3) := by decide +kernel
theorem dX12_readHead_289 : decode cX12_readHead 289 = .ok (.lcmp, 1) := by decide +kernel
theorem dX12_readHead_290 : decode cX12_readHead 290 = .ok (.ifCond .ne 7, 3) := by decide +kernel
theorem dX12_readHead_293 : decode cX12_readHead 293 = .ok (.iconst 1, 1) := by decide +kernel
theorem dX12_readHead_294 : decode cX12_readHead 294 = .ok (.goto 27, 3) := by decide +kernel
theorem dX12_readHead_297 : decode cX12_readHead 297 = .ok (.iconst 0, 1) := by decide +kernel
theorem dX12_readHead_298 : decode cX12_readHead 298 = .ok (.goto 23, 3) := by decide +kernel
theorem dX12_readHead_301 : decode cX12_readHead 301 = .ok (.aload_n 0, 1) := by decide +kernel
theorem dX12_readHead_302 : decode cX12_readHead 302 = .ok (.getfield 13, 3) := by decide +kernel
theorem dX12_readHead_305 : decode cX12_readHead 305 = .ok (.bipush 51, 2) := by decide +kernel
theorem dX12_readHead_307 : decode cX12_readHead 307 = .ok (.iconst 2, 1) := by decide +kernel
theorem dX12_readHead_308 : decode cX12_readHead 308 = .ok (.invokestatic 257, 3) := by decide +kernel
theorem dX12_readHead_311 : decode cX12_readHead 311 = .ok (.lconst 0, 1) := by decide +kernel
theorem dX12_readHead_312 : decode cX12_readHead 312 = .ok (.lcmp, 1) := by decide +kernel
theorem dX12_readHead_313 : decode cX12_readHead 313 = .ok (.ifCond .lt 7, 3) := by decide +kernel
theorem dX12_readHead_316 : decode cX12_readHead 316 = .ok (.iconst 1, 1) := by decide +kernel
theorem dX12_readHead_317 : decode cX12_readHead 317 = .ok (.goto 4, 3) := by decide +kernel
theorem dX12_readHead_320 : decode cX12_readHead 320 = .ok (.iconst 0, 1) := by decide +kernel
theorem dX12_readHead_321 : decode cX12_readHead 321 = .ok (.bipush 51, 2) := by decide +kernel
theorem dX12_readHead_323 : decode cX12_readHead 323 = .ok (.invokevirtual 260, 3) := by decide +kernel
theorem dX12_readHead_326 : decode cX12_readHead 326 = .ok (.aload_n 0, 1) := by decide +kernel
theorem dX12_readHead_327 : decode cX12_readHead 327 = .ok (.lload_n 3, 1) := by decide +kernel
theorem dX12_readHead_328 : decode cX12_readHead 328 = .ok (.ldc2_w 205, 3) := by decide +kernel
theorem dX12_readHead_331 : decode cX12_readHead 331 = .ok (.lcmp, 1) := by decide +kernel
theorem dX12_readHead_332 : decode cX12_readHead 332 = .ok (.ifCond .ne 28, 3) := by decide +kernel
theorem dX12_readHead_335 : decode cX12_readHead 335 = .ok (.aload_n 0, 1) := by decide +kernel
theorem dX12_readHead_336 : decode cX12_readHead 336 = .ok (.getfield 13, 3) := by decide +kernel
theorem dX12_readHead_339 : decode cX12_readHead 339 = .ok (.bipush 53, 2) := by decide +kernel
theorem dX12_readHead_341 : decode cX12_readHead 341 = .ok (.iconst 4, 1) := by decide +kernel
theorem dX12_readHead_342 : decode cX12_readHead 342 = .ok (.invokestatic 257, 3) := by decide +kernel
theorem dX12_readHead_345 : decode cX12_readHead 345 = .ok (.ldc2_w 205, 3) := by decide +kernel
theorem dX12_readHead_348 : decode cX12_readHead 348 = .ok (.lcmp, 1) := by decide +kernel
theorem dX12_readHead_349 : decode cX12_readHead 349 = .ok (.ifCond .ne 7, 3) := by decide +kernel
theorem dX12_readHead_352 : decode cX12_readHead 352 = .ok (.iconst 1, 1) := by decide +kernel
theorem dX12_readHead_353 : decode cX12_readHead 353 = .ok (.goto 27, 3) := by decide +kernel
theorem dX12_readHead_356 : decode cX12_readHead 356 = .ok (.iconst 0, 1) := by decide +kernel
theorem dX12_readHead_357 : decode cX12_readHead 357 = .ok (.goto 23, 3) := by decide +kernel
theorem dX12_readHead_360 : decode cX12_readHead 360 = .ok (.aload_n 0, 1) := by decide +kernel
theorem dX12_readHead_361 : decode cX12_readHead 361 = .ok (.getfield 13, 3) := by decide +kernel
theorem dX12_readHead_364 : decode cX12_readHead 364 = .ok (.bipush 53, 2) := by decide +kernel
theorem dX12_readHead_366 : decode cX12_readHead 366 = .ok (.iconst 4, 1) := by decide +kernel
theorem dX12_readHead_367 : decode cX12_readHead 367 = .ok (.invokestatic 257, 3) := by decide +kernel
theorem dX12_readHead_370 : decode cX12_readHead 370 = .ok (.lconst 0, 1) := by decide +kernel
theorem dX12_readHead_371 : decode cX12_readHead 371 = .ok (.lcmp, 1) := by decide +kernel
theorem dX12_readHead_372 : decode cX12_readHead 372 = .ok (.ifCond .lt 7, 3) := by decide +kernel
theorem dX12_readHead_375 : decode cX12_readHead 375 = .ok (.iconst 1, 1) := by decide +kernel
theorem dX12_readHead_376 : decode cX12_readHead 376 = .ok (.goto 4, 3) := by decide +kernel
theorem dX12_readHead_379 : decode cX12_readHead 379 = .ok (.iconst 0, 1) := by decide +kernel
theorem dX12_readHead_380 : decode cX12_readHead 380 = .ok (.bipush 53, 2) := by decide +kernel
theorem dX12_readHead_382 : decode cX12_readHead 382 = .ok (.invokevirtual 260, 3) := by decide +kernel
theorem dX12_readHead_385 : decode cX12_readHead 385 = .ok (.aload_n 0, 1) := by decide +kernel
theorem dX12_readHead_386 : decode cX12_readHead 386 = .ok (.lload_n 1, 1) := by decide +kernel
theorem dX12_readHead_387 : decode cX12_readHead 387 = .ok (.lconst 1, 1) := by decide +kernel
theorem dX12_readHead_388 : decode cX12_readHead 388 = .ok (.lcmp, 1) := by decide +kernel
theorem dX12_readHead_389 : decode cX12_readHead 389 = .ok (.ifCond .lt 15, 3) := by decide +kernel
theorem dX12_readHead_392 : decode cX12_readHead 392 = .ok (.lload_n 1, 1) := by decide +kernel
theorem dX12_readHead_393 : decode cX12_readHead 393 = .ok (.ldc2_w 264, 3) := by decide +kernel
theorem dX12_readHead_396 : decode cX12_readHead 396 = .ok (.lcmp, 1) := by decide +kernel
theorem dX12_readHead_397 : decode cX12_readHead 397 = .ok (.ifCond .gt 7, 3) := by decide +kernel
theorem dX12_readHead_400 : decode cX12_readHead 400 = .ok (.iconst 1, 1) := by decide +kernel
theorem dX12_readHead_401 : decode cX12_readHead 401 = .ok (.goto 4, 3) := by decide +kernel
theorem dX12_readHead_404 : decode cX12_readHead 404 = .ok (.iconst 0, 1) := by decide +kernel
theorem dX12_readHead_405 : decode cX12_readHead 405 = .ok (.bipush 57, 2) := by decide +kernel
theorem dX12_readHead_407 : decode cX12_readHead 407 = .ok (.invokevirtual 260, 3) := by decide +kernel
theorem dX12_readHead_410 : decode cX12_readHead 410 = .ok (.aload_n 0, 1) := by decide +kernel
theorem dX12_readHead_411 : decode cX12_readHead 411 = .ok (.getfield 251, 3) := by decide +kernel
theorem dX12_readHead_414 : decode cX12_readHead 414 = .ok (.ifCond .ne 43, 3) := by decide +kernel
theorem dX12_readHead_417 : decode cX12_readHead 417 = .ok (.aload_n 0, 1) := by decide +kernel
theorem dX12_readHead_418 : decode cX12_readHead 418 = .ok (.getfield 13, 3) := by decide +kernel
theorem dX12_readHead_421 : decode cX12_readHead 421 = .ok (.bipush 17, 2) := by decide +kernel
theorem dX12_readHead_423 : decode cX12_readHead 423 = .ok (.ldc2_w 266, 3) := by decide +kernel
theorem dX12_readHead_426 : decode cX12_readHead 426 = .ok (.invokestatic 268, 3) := by decide +kernel
theorem dX12_readHead_429 : decode cX12_readHead 429 = .ok (.aload_n 0, 1) := by decide +kernel
theorem dX12_readHead_430 : decode cX12_readHead 430 = .ok (.getfield 13, 3) := by decide +kernel
theorem dX12_readHead_433 : decode cX12_readHead 433 = .ok (.bipush 21, 2) := by decide +kernel
theorem dX12_readHead_435 : decode cX12_readHead 435 = .ok (.aload_n 0, 1) := by decide +kernel
theorem dX12_readHead_436 : decode cX12_readHead 436 = .ok (.getfield 148, 3) := by decide +kernel
theorem dX12_readHead_439 : decode cX12_readHead 439 = .ok (.invokestatic 191, 3) := by decide +kernel
theorem dX12_readHead_442 : decode cX12_readHead 442 = .ok (.lcmp, 1) := by decide +kernel
theorem dX12_readHead_443 : decode cX12_readHead 443 = .ok (.ifCond .eq 14, 3) := by decide +kernel
theorem dX12_readHead_446 : decode cX12_readHead 446 = .ok (.aload_n 0, 1) := by decide +kernel
theorem dX12_readHead_447 : decode cX12_readHead 447 = .ok (.iconst 3, 1) := by decide +kernel
theorem dX12_readHead_448 : decode cX12_readHead 448 = .ok (.putfield 251, 3) := by decide +kernel
theorem dX12_readHead_451 : decode cX12_readHead 451 = .ok (.aload_n 0, 1) := by decide +kernel
theorem dX12_readHead_452 : decode cX12_readHead 452 = .ok (.bipush 17, 2) := by decide +kernel
theorem dX12_readHead_454 : decode cX12_readHead 454 = .ok (.putfield 254, 3) := by decide +kernel
theorem dX12_readHead_457 : decode cX12_readHead 457 = .ok (.return_, 1) := by decide +kernel
theorem dX12_readTape_0 : decode cX12_readTape 0 = .ok (.aload_n 0, 1) := by decide +kernel
theorem dX12_readTape_1 : decode cX12_readTape 1 = .ok (.iconst 0, 1) := by decide +kernel
theorem dX12_readTape_2 : decode cX12_readTape 2 = .ok (.putfield 251, 3) := by decide +kernel
theorem dX12_readTape_5 : decode cX12_readTape 5 = .ok (.aload_n 0, 1) := by decide +kernel
theorem dX12_readTape_6 : decode cX12_readTape 6 = .ok (.iconst (-1), 1) := by decide +kernel
theorem dX12_readTape_7 : decode cX12_readTape 7 = .ok (.putfield 254, 3) := by decide +kernel
theorem dX12_readTape_10 : decode cX12_readTape 10 = .ok (.aload_n 0, 1) := by decide +kernel
theorem dX12_readTape_11 : decode cX12_readTape 11 = .ok (.getfield 148, 3) := by decide +kernel
theorem dX12_readTape_14 : decode cX12_readTape 14 = .ok (.bipush 61, 2) := by decide +kernel
theorem dX12_readTape_16 : decode cX12_readTape 16 = .ok (.if_icmp .lt 25, 3) := by decide +kernel
theorem dX12_readTape_19 : decode cX12_readTape 19 = .ok (.aload_n 0, 1) := by decide +kernel
theorem dX12_readTape_20 : decode cX12_readTape 20 = .ok (.getfield 13, 3) := by decide +kernel
theorem dX12_readTape_23 : decode cX12_readTape 23 = .ok (.bipush 8, 2) := by decide +kernel
theorem dX12_readTape_25 : decode cX12_readTape 25 = .ok (.iconst 4, 1) := by decide +kernel
theorem dX12_readTape_26 : decode cX12_readTape 26 = .ok (.invokestatic 257, 3) := by decide +kernel
theorem dX12_readTape_29 : decode cX12_readTape 29 = .ok (.aload_n 0, 1) := by decide +kernel
theorem dX12_readTape_30 : decode cX12_readTape 30 = .ok (.getfield 148, 3) := by decide +kernel
theorem dX12_readTape_33 : decode cX12_readTape 33 = .ok (.bipush 12, 2) := by decide +kernel
theorem dX12_readTape_35 : decode cX12_readTape 35 = .ok (.isub, 1) := by decide +kernel
theorem dX12_readTape_36 : decode cX12_readTape 36 = .ok (.i2l, 1) := by decide +kernel
theorem dX12_readTape_37 : decode cX12_readTape 37 = .ok (.lcmp, 1) := by decide +kernel
theorem dX12_readTape_38 : decode cX12_readTape 38 = .ok (.ifCond .eq 15, 3) := by decide +kernel
theorem dX12_readTape_41 : decode cX12_readTape 41 = .ok (.aload_n 0, 1) := by decide +kernel
theorem dX12_readTape_42 : decode cX12_readTape 42 = .ok (.iconst 1, 1) := by decide +kernel
theorem dX12_readTape_43 : decode cX12_readTape 43 = .ok (.putfield 251, 3) := by decide +kernel
theorem dX12_readTape_46 : decode cX12_readTape 46 = .ok (.aload_n 0, 1) := by decide +kernel
theorem dX12_readTape_47 : decode cX12_readTape 47 = .ok (.bipush 8, 2) := by decide +kernel
theorem dX12_readTape_49 : decode cX12_readTape 49 = .ok (.putfield 254, 3) := by decide +kernel
theorem dX12_readTape_52 : decode cX12_readTape 52 = .ok (.return_, 1) := by decide +kernel
theorem dX12_readTape_53 : decode cX12_readTape 53 = .ok (.aload_n 0, 1) := by decide +kernel
theorem dX12_readTape_54 : decode cX12_readTape 54 = .ok (.invokevirtual 272, 3) := by decide +kernel
theorem dX12_readTape_57 : decode cX12_readTape 57 = .ok (.aload_n 0, 1) := by decide +kernel
theorem dX12_readTape_58 : decode cX12_readTape 58 = .ok (.getfield 251, 3) := by decide +kernel
theorem dX12_readTape_61 : decode cX12_readTape 61 = .ok (.ifCond .le 4, 3) := by decide +kernel
theorem dX12_readTape_64 : decode cX12_readTape 64 = .ok (.return_, 1) := by decide +kernel
theorem dX12_readTape_65 : decode cX12_readTape 65 = .ok (.aload_n 0, 1) := by decide +kernel
theorem dX12_readTape_66 : decode cX12_readTape 66 = .ok (.aload_n 0, 1) := by decide +kernel
theorem dX12_readTape_67 : decode cX12_readTape 67 = .ok (.getfield 13, 3) := by decide +kernel
theorem dX12_readTape_70 : decode cX12_readTape 70 = .ok (.bipush 61, 2) := by decide +kernel
theorem dX12_readTape_72 : decode cX12_readTape 72 = .ok (.aload_n 0, 1) := by decide +kernel
theorem dX12_readTape_73 : decode cX12_readTape 73 = .ok (.getfield 148, 3) := by decide +kernel
theorem dX12_readTape_76 : decode cX12_readTape 76 = .ok (.invokevirtual 275, 3) := by decide +kernel
theorem dX12_readTape_79 : decode cX12_readTape 79 = .ok (.lconst 0, 1) := by decide +kernel
theorem dX12_readTape_80 : decode cX12_readTape 80 = .ok (.lstore_n 1, 1) := by decide +kernel
theorem dX12_readTape_81 : decode cX12_readTape 81 = .ok (.iconst 0, 1) := by decide +kernel
theorem dX12_readTape_82 : decode cX12_readTape 82 = .ok (.istore_n 3, 1) := by decide +kernel
theorem dX12_readTape_83 : decode cX12_readTape 83 = .ok (.iload_n 3, 1) := by decide +kernel
theorem dX12_readTape_84 : decode cX12_readTape 84 = .ok (.i2l, 1) := by decide +kernel
theorem dX12_readTape_85 : decode cX12_readTape 85 = .ok (.aload_n 0, 1) := by decide +kernel
theorem dX12_readTape_86 : decode cX12_readTape 86 = .ok (.getfield 13, 3) := by decide +kernel
theorem dX12_readTape_89 : decode cX12_readTape 89 = .ok (.bipush 57, 2) := by decide +kernel
theorem dX12_readTape_91 : decode cX12_readTape 91 = .ok (.iconst 4, 1) := by decide +kernel
theorem dX12_readTape_92 : decode cX12_readTape 92 = .ok (.invokestatic 257, 3) := by decide +kernel
theorem dX12_readTape_95 : decode cX12_readTape 95 = .ok (.lcmp, 1) := by decide +kernel
theorem dX12_readTape_96 : decode cX12_readTape 96 = .ok (.ifCond .ge 69, 3) := by decide +kernel
theorem dX12_readTape_99 : decode cX12_readTape 99 = .ok (.aload_n 0, 1) := by decide +kernel
theorem dX12_readTape_100 : decode cX12_readTape 100 = .ok (.aload_n 0, 1) := by decide +kernel
theorem dX12_readTape_101 : decode cX12_readTape 101 = .ok (.getfield 13, 3) := by decide +kernel
theorem dX12_readTape_104 : decode cX12_readTape 104 = .ok (.bipush 27, 2) := by decide +kernel
theorem dX12_readTape_106 : decode cX12_readTape 106 = .ok (.bipush 8, 2) := by decide +kernel
theorem dX12_readTape_108 : decode cX12_readTape 108 = .ok (.invokestatic 257, 3) := by decide +kernel
theorem dX12_readTape_111 : decode cX12_readTape 111 = .ok (.invokevirtual 279, 3) := by decide +kernel
theorem dX12_readTape_114 : decode cX12_readTape 114 = .ok (.ifCond .eq 13, 3) := by decide +kernel
theorem dX12_readTape_117 : decode cX12_readTape 117 = .ok (.aload_n 0, 1) := by decide +kernel
theorem dX12_readTape_118 : decode cX12_readTape 118 = .ok (.getfield 233, 3) := by decide +kernel
theorem dX12_readTape_121 : decode cX12_readTape 121 = .ok (.iload_n 3, 1) := by decide +kernel
theorem dX12_readTape_122 : decode cX12_readTape 122 = .ok (.i2l, 1) := by decide +kernel
theorem dX12_readTape_123 : decode cX12_readTape 123 = .ok (.lcmp, 1) := by decide +kernel
theorem dX12_readTape_124 : decode cX12_readTape 124 = .ok (.ifCond .eq 17, 3) := by decide +kernel
theorem dX12_readTape_127 : decode cX12_readTape 127 = .ok (.aload_n 0, 1) := by decide +kernel
theorem dX12_readTape_128 : decode cX12_readTape 128 = .ok (.iconst 4, 1) := by decide +kernel
theorem dX12_readTape_129 : decode cX12_readTape 129 = .ok (.putfield 251, 3) := by decide +kernel
theorem dX12_readTape_132 : decode cX12_readTape 132 = .ok (.aload_n 0, 1) := by decide +kernel
theorem dX12_readTape_133 : decode cX12_readTape 133 = .ok (.aload_n 0, 1) := by decide +kernel
theorem dX12_readTape_134 : decode cX12_readTape 134 = .ok (.getfield 221, 3) := by decide +kernel
theorem dX12_readTape_137 : decode cX12_readTape 137 = .ok (.putfield 254, 3) := by decide +kernel
theorem dX12_readTape_140 : decode cX12_readTape 140 = .ok (.return_, 1) := by decide +kernel
theorem dX12_readTape_141 : decode cX12_readTape 141 = .ok (.aload_n 0, 1) := by decide +kernel
theorem dX12_readTape_142 : decode cX12_readTape 142 = .ok (.getfield 227, 3) := by decide +kernel
theorem dX12_readTape_145 : decode cX12_readTape 145 = .ok (.lload_n 1, 1) := by decide +kernel
theorem dX12_readTape_146 : decode cX12_readTape 146 = .ok (.lcmp, 1) := by decide +kernel
theorem dX12_readTape_147 : decode cX12_readTape 147 = .ok (.ifCond .le 10, 3) := by decide +kernel
theorem dX12_readTape_150 : decode cX12_readTape 150 = .ok (.aload_n 0, 1) := by decide +kernel
theorem dX12_readTape_151 : decode cX12_readTape 151 = .ok (.getfield 227, 3) := by decide +kernel
theorem dX12_readTape_154 : decode cX12_readTape 154 = .ok (.goto 4, 3) := by decide +kernel
theorem dX12_readTape_157 : decode cX12_readTape 157 = .ok (.lload_n 1, 1) := by decide +kernel
theorem dX12_readTape_158 : decode cX12_readTape 158 = .ok (.lstore_n 1, 1) := by decide +kernel
theorem dX12_readTape_159 : decode cX12_readTape 159 = .ok (.iinc 3 1, 3) := by decide +kernel
theorem dX12_readTape_162 : decode cX12_readTape 162 = .ok (.goto (-79), 3) := by decide +kernel
theorem dX12_readTape_165 : decode cX12_readTape 165 = .ok (.aload_n 0, 1) := by decide +kernel
theorem dX12_readTape_166 : decode cX12_readTape 166 = .ok (.getfield 211, 3) := by decide +kernel
theorem dX12_readTape_169 : decode cX12_readTape 169 = .ok (.aload_n 0, 1) := by decide +kernel
theorem dX12_readTape_170 : decode cX12_readTape 170 = .ok (.getfield 148, 3) := by decide +kernel
theorem dX12_readTape_173 : decode cX12_readTape 173 = .ok (.if_icmp .ge 19, 3) := by decide +kernel
theorem dX12_readTape_176 : decode cX12_readTape 176 = .ok (.aload_n 0, 1) := by decide +kernel
theorem dX12_readTape_177 : decode cX12_readTape 177 = .ok (.iconst 4, 1) := by decide +kernel
theorem dX12_readTape_178 : decode cX12_readTape 178 = .ok (.putfield 251, 3) := by decide +kernel
theorem dX12_readTape_181 : decode cX12_readTape 181 = .ok (.aload_n 0, 1) := by decide +kernel
theorem dX12_readTape_182 : decode cX12_readTape 182 = .ok (.aload_n 0, 1) := by decide +kernel
theorem dX12_readTape_183 : decode cX12_readTape 183 = .ok (.getfield 211, 3) := by decide +kernel
theorem dX12_readTape_186 : decode cX12_readTape 186 = .ok (.putfield 254, 3) := by decide +kernel
theorem dX12_readTape_189 : decode cX12_readTape 189 = .ok (.goto 30, 3) := by decide +kernel
theorem dX12_readTape_192 : decode cX12_readTape 192 = .ok (.lload_n 1, 1) := by decide +kernel
theorem dX12_readTape_193 : decode cX12_readTape 193 = .ok (.aload_n 0, 1) := by decide +kernel
theorem dX12_readTape_194 : decode cX12_readTape 194 = .ok (.getfield 13, 3) := by decide +kernel
theorem dX12_readTape_197 : decode cX12_readTape 197 = .ok (.bipush 35, 2) := by decide +kernel
theorem dX12_readTape_199 : decode cX12_readTape 199 = .ok (.bipush 8, 2) := by decide +kernel
theorem dX12_readTape_201 : decode cX12_readTape 201 = .ok (.invokestatic 257, 3) := by decide +kernel
theorem dX12_readTape_204 : decode cX12_readTape 204 = .ok (.lcmp, 1) := by decide +kernel
theorem dX12_readTape_205 : decode cX12_readTape 205 = .ok (.ifCond .eq 14, 3) := by decide +kernel
theorem dX12_readTape_208 : decode cX12_readTape 208 = .ok (.aload_n 0, 1) := by decide +kernel
theorem dX12_readTape_209 : decode cX12_readTape 209 = .ok (.iconst 5, 1) := by decide +kernel
theorem dX12_readTape_210 : decode cX12_readTape 210 = .ok (.putfield 251, 3) := by decide +kernel
theorem dX12_readTape_213 : decode cX12_readTape 213 = .ok (.aload_n 0, 1) := by decide +kernel
theorem dX12_readTape_214 : decode cX12_readTape 214 = .ok (.bipush 35, 2) := by decide +kernel
theorem dX12_readTape_216 : decode cX12_readTape 216 = .ok (.putfield 254, 3) := by decide +kernel
theorem dX12_readTape_219 : decode cX12_readTape 219 = .ok (.return_, 1) := by decide +kernel
theorem dX12_fault_0 : decode cX12_fault 0 = .ok (.aload_n 0, 1) := by decide +kernel
theorem dX12_fault_1 : decode cX12_fault 1 = .ok (.iload_n 1, 1) := by decide +kernel
theorem dX12_fault_2 : decode cX12_fault 2 = .ok (.ifCond .eq 8, 3) := by decide +kernel
theorem dX12_fault_5 : decode cX12_fault 5 = .ok (.iload_n 1, 1) := by decide +kernel
theorem dX12_fault_6 : decode cX12_fault 6 = .ok (.iconst 1, 1) := by decide +kernel
theorem dX12_fault_7 : decode cX12_fault 7 = .ok (.if_icmp .ne 7, 3) := by decide +kernel
theorem dX12_fault_10 : decode cX12_fault 10 = .ok (.iconst 0, 1) := by decide +kernel
theorem dX12_fault_11 : decode cX12_fault 11 = .ok (.goto 4, 3) := by decide +kernel
theorem dX12_fault_14 : decode cX12_fault 14 = .ok (.iconst 1, 1) := by decide +kernel
theorem dX12_fault_15 : decode cX12_fault 15 = .ok (.putfield 145, 3) := by decide +kernel
theorem dX12_fault_18 : decode cX12_fault 18 = .ok (.aload_n 0, 1) := by decide +kernel
theorem dX12_fault_19 : decode cX12_fault 19 = .ok (.getfield 145, 3) := by decide +kernel
theorem dX12_fault_22 : decode cX12_fault 22 = .ok (.ifCond .le 5, 3) := by decide +kernel
theorem dX12_fault_25 : decode cX12_fault 25 = .ok (.iconst 0, 1) := by decide +kernel
theorem dX12_fault_26 : decode cX12_fault 26 = .ok (.ireturn, 1) := by decide +kernel
theorem dX12_fault_27 : decode cX12_fault 27 = .ok (.aload_n 0, 1) := by decide +kernel
theorem dX12_fault_28 : decode cX12_fault 28 = .ok (.invokevirtual 283, 3) := by decide +kernel
theorem dX12_fault_31 : decode cX12_fault 31 = .ok (.iload_n 1, 1) := by decide +kernel
theorem dX12_fault_32 : decode cX12_fault 32 = .ok (.ifCond .ne 10, 3) := by decide +kernel
theorem dX12_fault_35 : decode cX12_fault 35 = .ok (.aload_n 0, 1) := by decide +kernel
theorem dX12_fault_36 : decode cX12_fault 36 = .ok (.getfield 251, 3) := by decide +kernel
theorem dX12_fault_39 : decode cX12_fault 39 = .ok (.goto 7, 3) := by decide +kernel
theorem dX12_fault_42 : decode cX12_fault 42 = .ok (.aload_n 0, 1) := by decide +kernel
theorem dX12_fault_43 : decode cX12_fault 43 = .ok (.getfield 254, 3) := by decide +kernel
theorem dX12_fault_46 : decode cX12_fault 46 = .ok (.ireturn, 1) := by decide +kernel
theorem dX12_goes_0 : decode cX12_goes 0 = .ok (.aload_n 0, 1) := by decide +kernel
theorem dX12_goes_1 : decode cX12_goes 1 = .ok (.iload_n 1, 1) := by decide +kernel
theorem dX12_goes_2 : decode cX12_goes 2 = .ok (.ifCond .ne 7, 3) := by decide +kernel
theorem dX12_goes_5 : decode cX12_goes 5 = .ok (.iconst 1, 1) := by decide +kernel
theorem dX12_goes_6 : decode cX12_goes 6 = .ok (.goto 15, 3) := by decide +kernel
theorem dX12_goes_9 : decode cX12_goes 9 = .ok (.aload_n 0, 1) := by decide +kernel
theorem dX12_goes_10 : decode cX12_goes 10 = .ok (.getfield 286, 3) := by decide +kernel
theorem dX12_goes_13 : decode cX12_goes 13 = .ok (.ifCond .eq 7, 3) := by decide +kernel
theorem dX12_goes_16 : decode cX12_goes 16 = .ok (.iconst 2, 1) := by decide +kernel
theorem dX12_goes_17 : decode cX12_goes 17 = .ok (.goto 4, 3) := by decide +kernel
theorem dX12_goes_20 : decode cX12_goes 20 = .ok (.iconst 0, 1) := by decide +kernel
theorem dX12_goes_21 : decode cX12_goes 21 = .ok (.putfield 145, 3) := by decide +kernel
theorem dX12_goes_24 : decode cX12_goes 24 = .ok (.aload_n 0, 1) := by decide +kernel
theorem dX12_goes_25 : decode cX12_goes 25 = .ok (.getfield 145, 3) := by decide +kernel
theorem dX12_goes_28 : decode cX12_goes 28 = .ok (.ifCond .ne 7, 3) := by decide +kernel
theorem dX12_goes_31 : decode cX12_goes 31 = .ok (.iconst 1, 1) := by decide +kernel
theorem dX12_goes_32 : decode cX12_goes 32 = .ok (.goto 4, 3) := by decide +kernel
theorem dX12_goes_35 : decode cX12_goes 35 = .ok (.iconst 0, 1) := by decide +kernel
theorem dX12_goes_36 : decode cX12_goes 36 = .ok (.ireturn, 1) := by decide +kernel
theorem dX12_mark_0 : decode cX12_mark 0 = .ok (.iconst 0, 1) := by decide +kernel
theorem dX12_mark_1 : decode cX12_mark 1 = .ok (.istore_n 1, 1) := by decide +kernel
theorem dX12_mark_2 : decode cX12_mark 2 = .ok (.iload_n 1, 1) := by decide +kernel
theorem dX12_mark_3 : decode cX12_mark 3 = .ok (.aload_n 0, 1) := by decide +kernel
theorem dX12_mark_4 : decode cX12_mark 4 = .ok (.getfield 142, 3) := by decide +kernel
theorem dX12_mark_7 : decode cX12_mark 7 = .ok (.if_icmp .ge 30, 3) := by decide +kernel
theorem dX12_mark_10 : decode cX12_mark 10 = .ok (.aload_n 0, 1) := by decide +kernel
theorem dX12_mark_11 : decode cX12_mark 11 = .ok (.getfield 67, 3) := by decide +kernel
theorem dX12_mark_14 : decode cX12_mark 14 = .ok (.iload_n 1, 1) := by decide +kernel
theorem dX12_mark_15 : decode cX12_mark 15 = .ok (.iload_n 1, 1) := by decide +kernel
theorem dX12_mark_16 : decode cX12_mark 16 = .ok (.aload_n 0, 1) := by decide +kernel
theorem dX12_mark_17 : decode cX12_mark 17 = .ok (.getfield 136, 3) := by decide +kernel
theorem dX12_mark_20 : decode cX12_mark 20 = .ok (.iconst 2, 1) := by decide +kernel
theorem dX12_mark_21 : decode cX12_mark 21 = .ok (.iadd, 1) := by decide +kernel
theorem dX12_mark_22 : decode cX12_mark 22 = .ok (.if_icmp .ge 7, 3) := by decide +kernel
theorem dX12_mark_25 : decode cX12_mark 25 = .ok (.iconst 1, 1) := by decide +kernel
theorem dX12_mark_26 : decode cX12_mark 26 = .ok (.goto 4, 3) := by decide +kernel
theorem dX12_mark_29 : decode cX12_mark 29 = .ok (.iconst 0, 1) := by decide +kernel
theorem dX12_mark_30 : decode cX12_mark 30 = .ok (.bastore, 1) := by decide +kernel
theorem dX12_mark_31 : decode cX12_mark 31 = .ok (.iinc 1 1, 3) := by decide +kernel
theorem dX12_mark_34 : decode cX12_mark 34 = .ok (.goto (-32), 3) := by decide +kernel
theorem dX12_mark_37 : decode cX12_mark 37 = .ok (.iconst 0, 1) := by decide +kernel
theorem dX12_mark_38 : decode cX12_mark 38 = .ok (.istore_n 1, 1) := by decide +kernel
theorem dX12_mark_39 : decode cX12_mark 39 = .ok (.iload_n 1, 1) := by decide +kernel
theorem dX12_mark_40 : decode cX12_mark 40 = .ok (.aload_n 0, 1) := by decide +kernel
theorem dX12_mark_41 : decode cX12_mark 41 = .ok (.getfield 136, 3) := by decide +kernel
theorem dX12_mark_44 : decode cX12_mark 44 = .ok (.if_icmp .gt 42, 3) := by decide +kernel
theorem dX12_mark_47 : decode cX12_mark 47 = .ok (.iconst 0, 1) := by decide +kernel
theorem dX12_mark_48 : decode cX12_mark 48 = .ok (.istore_n 2, 1) := by decide +kernel
theorem dX12_mark_49 : decode cX12_mark 49 = .ok (.iload_n 2, 1) := by decide +kernel
theorem dX12_mark_50 : decode cX12_mark 50 = .ok (.aload_n 0, 1) := by decide +kernel
theorem dX12_mark_51 : decode cX12_mark 51 = .ok (.getfield 58, 3) := by decide +kernel
theorem dX12_mark_54 : decode cX12_mark 54 = .ok (.iload_n 1, 1) := by decide +kernel
theorem dX12_mark_55 : decode cX12_mark 55 = .ok (.iaload, 1) := by decide +kernel
theorem dX12_mark_56 : decode cX12_mark 56 = .ok (.if_icmp .ge 24, 3) := by decide +kernel
theorem dX12_mark_59 : decode cX12_mark 59 = .ok (.aload_n 0, 1) := by decide +kernel
theorem dX12_mark_60 : decode cX12_mark 60 = .ok (.aload_n 0, 1) := by decide +kernel
theorem dX12_mark_61 : decode cX12_mark 61 = .ok (.getfield 61, 3) := by decide +kernel
theorem dX12_mark_64 : decode cX12_mark 64 = .ok (.bipush 60, 2) := by decide +kernel
theorem dX12_mark_66 : decode cX12_mark 66 = .ok (.iload_n 1, 1) := by decide +kernel
theorem dX12_mark_67 : decode cX12_mark 67 = .ok (.imul, 1) := by decide +kernel
theorem dX12_mark_68 : decode cX12_mark 68 = .ok (.iload_n 2, 1) := by decide +kernel
theorem dX12_mark_69 : decode cX12_mark 69 = .ok (.iadd, 1) := by decide +kernel
theorem dX12_mark_70 : decode cX12_mark 70 = .ok (.iaload, 1) := by decide +kernel
theorem dX12_mark_71 : decode cX12_mark 71 = .ok (.invokevirtual 289, 3) := by decide +kernel
theorem dX12_mark_74 : decode cX12_mark 74 = .ok (.iinc 2 1, 3) := by decide +kernel
theorem dX12_mark_77 : decode cX12_mark 77 = .ok (.goto (-28), 3) := by decide +kernel
theorem dX12_mark_80 : decode cX12_mark 80 = .ok (.iinc 1 1, 3) := by decide +kernel
theorem dX12_mark_83 : decode cX12_mark 83 = .ok (.goto (-44), 3) := by decide +kernel
theorem dX12_mark_86 : decode cX12_mark 86 = .ok (.return_, 1) := by decide +kernel
theorem dX12_hold_0 : decode cX12_hold 0 = .ok (.iconst 0, 1) := by decide +kernel
theorem dX12_hold_1 : decode cX12_hold 1 = .ok (.istore_n 2, 1) := by decide +kernel
theorem dX12_hold_2 : decode cX12_hold 2 = .ok (.iload_n 2, 1) := by decide +kernel
theorem dX12_hold_3 : decode cX12_hold 3 = .ok (.aload_n 0, 1) := by decide +kernel
theorem dX12_hold_4 : decode cX12_hold 4 = .ok (.getfield 139, 3) := by decide +kernel
theorem dX12_hold_7 : decode cX12_hold 7 = .ok (.if_icmp .ge 18, 3) := by decide +kernel
theorem dX12_hold_10 : decode cX12_hold 10 = .ok (.aload_n 0, 1) := by decide +kernel
theorem dX12_hold_11 : decode cX12_hold 11 = .ok (.getfield 67, 3) := by decide +kernel
theorem dX12_hold_14 : decode cX12_hold 14 = .ok (.iload_n 1, 1) := by decide +kernel
theorem dX12_hold_15 : decode cX12_hold 15 = .ok (.iload_n 2, 1) := by decide +kernel
theorem dX12_hold_16 : decode cX12_hold 16 = .ok (.iadd, 1) := by decide +kernel
theorem dX12_hold_17 : decode cX12_hold 17 = .ok (.iconst 1, 1) := by decide +kernel
theorem dX12_hold_18 : decode cX12_hold 18 = .ok (.bastore, 1) := by decide +kernel
theorem dX12_hold_19 : decode cX12_hold 19 = .ok (.iinc 2 1, 3) := by decide +kernel
theorem dX12_hold_22 : decode cX12_hold 22 = .ok (.goto (-20), 3) := by decide +kernel
theorem dX12_hold_25 : decode cX12_hold 25 = .ok (.return_, 1) := by decide +kernel
theorem dX12_placeOf_0 : decode cX12_placeOf 0 = .ok (.aload_n 0, 1) := by decide +kernel
theorem dX12_placeOf_1 : decode cX12_placeOf 1 = .ok (.getfield 136, 3) := by decide +kernel
theorem dX12_placeOf_4 : decode cX12_placeOf 4 = .ok (.iconst 2, 1) := by decide +kernel
theorem dX12_placeOf_5 : decode cX12_placeOf 5 = .ok (.iadd, 1) := by decide +kernel
theorem dX12_placeOf_6 : decode cX12_placeOf 6 = .ok (.istore_n 1, 1) := by decide +kernel
theorem dX12_placeOf_7 : decode cX12_placeOf 7 = .ok (.iload_n 1, 1) := by decide +kernel
theorem dX12_placeOf_8 : decode cX12_placeOf 8 = .ok (.aload_n 0, 1) := by decide +kernel
theorem dX12_placeOf_9 : decode cX12_placeOf 9 = .ok (.getfield 139, 3) := by decide +kernel
theorem dX12_placeOf_12 : decode cX12_placeOf 12 = .ok (.iadd, 1) := by decide +kernel
theorem dX12_placeOf_13 : decode cX12_placeOf 13 = .ok (.aload_n 0, 1) := by decide +kernel
theorem dX12_placeOf_14 : decode cX12_placeOf 14 = .ok (.getfield 142, 3) := by decide +kernel
theorem dX12_placeOf_17 : decode cX12_placeOf 17 = .ok (.if_icmp .gt 54, 3) := by decide +kernel
theorem dX12_placeOf_20 : decode cX12_placeOf 20 = .ok (.iconst 1, 1) := by decide +kernel
theorem dX12_placeOf_21 : decode cX12_placeOf 21 = .ok (.istore_n 2, 1) := by decide +kernel
theorem dX12_placeOf_22 : decode cX12_placeOf 22 = .ok (.iload_n 1, 1) := by decide +kernel
theorem dX12_placeOf_23 : decode cX12_placeOf 23 = .ok (.istore_n 3, 1) := by decide +kernel
theorem dX12_placeOf_24 : decode cX12_placeOf 24 = .ok (.iload_n 3, 1) := by decide +kernel
theorem dX12_placeOf_25 : decode cX12_placeOf 25 = .ok (.iload_n 1, 1) := by decide +kernel
theorem dX12_placeOf_26 : decode cX12_placeOf 26 = .ok (.aload_n 0, 1) := by decide +kernel
theorem dX12_placeOf_27 : decode cX12_placeOf 27 = .ok (.getfield 139, 3) := by decide +kernel
theorem dX12_placeOf_30 : decode cX12_placeOf 30 = .ok (.iadd, 1) := by decide +kernel
theorem dX12_placeOf_31 : decode cX12_placeOf 31 = .ok (.if_icmp .ge 28, 3) := by decide +kernel
theorem dX12_placeOf_34 : decode cX12_placeOf 34 = .ok (.iload_n 2, 1) := by decide +kernel
theorem dX12_placeOf_35 : decode cX12_placeOf 35 = .ok (.ifCond .eq 16, 3) := by decide +kernel
theorem dX12_placeOf_38 : decode cX12_placeOf 38 = .ok (.aload_n 0, 1) := by decide +kernel
theorem dX12_placeOf_39 : decode cX12_placeOf 39 = .ok (.getfield 67, 3) := by decide +kernel
theorem dX12_placeOf_42 : decode cX12_placeOf 42 = .ok (.iload_n 3, 1) := by decide +kernel
theorem dX12_placeOf_43 : decode cX12_placeOf 43 = .ok (.baload, 1) := by decide +kernel
theorem dX12_placeOf_44 : decode cX12_placeOf 44 = .ok (.ifCond .ne 7, 3) := by decide +kernel
theorem dX12_placeOf_47 : decode cX12_placeOf 47 = .ok (.iconst 1, 1) := by decide +kernel
theorem dX12_placeOf_48 : decode cX12_placeOf 48 = .ok (.goto 4, 3) := by decide +kernel
theorem dX12_placeOf_51 : decode cX12_placeOf 51 = .ok (.iconst 0, 1) := by decide +kernel
theorem dX12_placeOf_52 : decode cX12_placeOf 52 = .ok (.istore_n 2, 1) := by decide +kernel
theorem dX12_placeOf_53 : decode cX12_placeOf 53 = .ok (.iinc 3 1, 3) := by decide +kernel
theorem dX12_placeOf_56 : decode cX12_placeOf 56 = .ok (.goto (-32), 3) := by decide +kernel
theorem dX12_placeOf_59 : decode cX12_placeOf 59 = .ok (.iload_n 2, 1) := by decide +kernel
theorem dX12_placeOf_60 : decode cX12_placeOf 60 = .ok (.ifCond .eq 5, 3) := by decide +kernel
theorem dX12_placeOf_63 : decode cX12_placeOf 63 = .ok (.iload_n 1, 1) := by decide +kernel
theorem dX12_placeOf_64 : decode cX12_placeOf 64 = .ok (.ireturn, 1) := by decide +kernel
theorem dX12_placeOf_65 : decode cX12_placeOf 65 = .ok (.iinc 1 1, 3) := by decide +kernel
theorem dX12_placeOf_68 : decode cX12_placeOf 68 = .ok (.goto (-61), 3) := by decide +kernel
theorem dX12_placeOf_71 : decode cX12_placeOf 71 = .ok (.iconst (-1), 1) := by decide +kernel
theorem dX12_placeOf_72 : decode cX12_placeOf 72 = .ok (.ireturn, 1) := by decide +kernel
theorem dX12_spend_0 : decode cX12_spend 0 = .ok (.aload_n 0, 1) := by decide +kernel
theorem dX12_spend_1 : decode cX12_spend 1 = .ok (.getfield 7, 3) := by decide +kernel
theorem dX12_spend_4 : decode cX12_spend 4 = .ok (.ifCond .lt 15, 3) := by decide +kernel
theorem dX12_spend_7 : decode cX12_spend 7 = .ok (.aload_n 0, 1) := by decide +kernel
theorem dX12_spend_8 : decode cX12_spend 8 = .ok (.getfield 7, 3) := by decide +kernel
theorem dX12_spend_11 : decode cX12_spend 11 = .ok (.iload_n 1, 1) := by decide +kernel
theorem dX12_spend_12 : decode cX12_spend 12 = .ok (.if_icmp .gt 7, 3) := by decide +kernel
theorem dX12_spend_15 : decode cX12_spend 15 = .ok (.iconst 1, 1) := by decide +kernel
theorem dX12_spend_16 : decode cX12_spend 16 = .ok (.goto 4, 3) := by decide +kernel
theorem dX12_spend_19 : decode cX12_spend 19 = .ok (.iconst 0, 1) := by decide +kernel
theorem dX12_spend_20 : decode cX12_spend 20 = .ok (.istore_n 2, 1) := by decide +kernel
theorem dX12_spend_21 : decode cX12_spend 21 = .ok (.iload_n 2, 1) := by decide +kernel
theorem dX12_spend_22 : decode cX12_spend 22 = .ok (.ifCond .eq 10, 3) := by decide +kernel
theorem dX12_spend_25 : decode cX12_spend 25 = .ok (.aload_n 0, 1) := by decide +kernel
theorem dX12_spend_26 : decode cX12_spend 26 = .ok (.getfield 7, 3) := by decide +kernel
theorem dX12_spend_29 : decode cX12_spend 29 = .ok (.goto 4, 3) := by decide +kernel
theorem dX12_spend_32 : decode cX12_spend 32 = .ok (.iload_n 1, 1) := by decide +kernel
theorem dX12_spend_33 : decode cX12_spend 33 = .ok (.istore_n 3, 1) := by decide +kernel
theorem dX12_spend_34 : decode cX12_spend 34 = .ok (.aload_n 0, 1) := by decide +kernel
theorem dX12_spend_35 : decode cX12_spend 35 = .ok (.dup, 1) := by decide +kernel
theorem dX12_spend_36 : decode cX12_spend 36 = .ok (.getfield 292, 3) := by decide +kernel
theorem dX12_spend_39 : decode cX12_spend 39 = .ok (.iload_n 3, 1) := by decide +kernel
theorem dX12_spend_40 : decode cX12_spend 40 = .ok (.iadd, 1) := by decide +kernel
theorem dX12_spend_41 : decode cX12_spend 41 = .ok (.putfield 292, 3) := by decide +kernel
theorem dX12_spend_44 : decode cX12_spend 44 = .ok (.aload_n 0, 1) := by decide +kernel
theorem dX12_spend_45 : decode cX12_spend 45 = .ok (.dup, 1) := by decide +kernel
theorem dX12_spend_46 : decode cX12_spend 46 = .ok (.getfield 7, 3) := by decide +kernel
theorem dX12_spend_49 : decode cX12_spend 49 = .ok (.aload_n 0, 1) := by decide +kernel
theorem dX12_spend_50 : decode cX12_spend 50 = .ok (.getfield 7, 3) := by decide +kernel
theorem dX12_spend_53 : decode cX12_spend 53 = .ok (.ifCond .ge 7, 3) := by decide +kernel
theorem dX12_spend_56 : decode cX12_spend 56 = .ok (.iconst 0, 1) := by decide +kernel
theorem dX12_spend_57 : decode cX12_spend 57 = .ok (.goto 4, 3) := by decide +kernel
theorem dX12_spend_60 : decode cX12_spend 60 = .ok (.iload_n 3, 1) := by decide +kernel
theorem dX12_spend_61 : decode cX12_spend 61 = .ok (.isub, 1) := by decide +kernel
theorem dX12_spend_62 : decode cX12_spend 62 = .ok (.putfield 7, 3) := by decide +kernel
theorem dX12_spend_65 : decode cX12_spend 65 = .ok (.aload_n 0, 1) := by decide +kernel
theorem dX12_spend_66 : decode cX12_spend 66 = .ok (.iload_n 2, 1) := by decide +kernel
theorem dX12_spend_67 : decode cX12_spend 67 = .ok (.putfield 286, 3) := by decide +kernel
theorem dX12_spend_70 : decode cX12_spend 70 = .ok (.iload_n 3, 1) := by decide +kernel
theorem dX12_spend_71 : decode cX12_spend 71 = .ok (.iload_n 1, 1) := by decide +kernel
theorem dX12_spend_72 : decode cX12_spend 72 = .ok (.if_icmp .ne 7, 3) := by decide +kernel
theorem dX12_spend_75 : decode cX12_spend 75 = .ok (.iconst 1, 1) := by decide +kernel
theorem dX12_spend_76 : decode cX12_spend 76 = .ok (.goto 4, 3) := by decide +kernel
theorem dX12_spend_79 : decode cX12_spend 79 = .ok (.iconst 0, 1) := by decide +kernel
theorem dX12_spend_80 : decode cX12_spend 80 = .ok (.ireturn, 1) := by decide +kernel
theorem dX12_touched_0 : decode cX12_touched 0 = .ok (.iload_n 1, 1) := by decide +kernel
theorem dX12_touched_1 : decode cX12_touched 1 = .ok (.ifCond .ne 7, 3) := by decide +kernel
theorem dX12_touched_4 : decode cX12_touched 4 = .ok (.iconst 0, 1) := by decide +kernel
theorem dX12_touched_5 : decode cX12_touched 5 = .ok (.goto 20, 3) := by decide +kernel
theorem dX12_touched_8 : decode cX12_touched 8 = .ok (.iload_n 0, 1) := by decide +kernel
theorem dX12_touched_9 : decode cX12_touched 9 = .ok (.iload_n 1, 1) := by decide +kernel
theorem dX12_touched_10 : decode cX12_touched 10 = .ok (.iadd, 1) := by decide +kernel
theorem dX12_touched_11 : decode cX12_touched 11 = .ok (.iconst 1, 1) := by decide +kernel
theorem dX12_touched_12 : decode cX12_touched 12 = .ok (.isub, 1) := by decide +kernel
theorem dX12_touched_13 : decode cX12_touched 13 = .ok (.sipush 1024, 3) := by decide +kernel
theorem dX12_touched_16 : decode cX12_touched 16 = .ok (.idiv, 1) := by decide +kernel
theorem dX12_touched_17 : decode cX12_touched 17 = .ok (.iload_n 0, 1) := by decide +kernel
theorem dX12_touched_18 : decode cX12_touched 18 = .ok (.sipush 1024, 3) := by decide +kernel
theorem dX12_touched_21 : decode cX12_touched 21 = .ok (.idiv, 1) := by decide +kernel
theorem dX12_touched_22 : decode cX12_touched 22 = .ok (.isub, 1) := by decide +kernel
theorem dX12_touched_23 : decode cX12_touched 23 = .ok (.iconst 1, 1) := by decide +kernel
theorem dX12_touched_24 : decode cX12_touched 24 = .ok (.iadd, 1) := by decide +kernel
theorem dX12_touched_25 : decode cX12_touched 25 = .ok (.ireturn, 1) := by decide +kernel
theorem dX12_tidy_0 : decode cX12_tidy 0 = .ok (.iconst 0, 1) := by decide +kernel
theorem dX12_tidy_1 : decode cX12_tidy 1 = .ok (.istore_n 1, 1) := by decide +kernel
theorem dX12_tidy_2 : decode cX12_tidy 2 = .ok (.iconst 0, 1) := by decide +kernel
theorem dX12_tidy_3 : decode cX12_tidy 3 = .ok (.istore_n 2, 1) := by decide +kernel
theorem dX12_tidy_4 : decode cX12_tidy 4 = .ok (.iload_n 2, 1) := by decide +kernel
theorem dX12_tidy_5 : decode cX12_tidy 5 = .ok (.aload_n 0, 1) := by decide +kernel
theorem dX12_tidy_6 : decode cX12_tidy 6 = .ok (.getfield 295, 3) := by decide +kernel
theorem dX12_tidy_9 : decode cX12_tidy 9 = .ok (.if_icmp .ge 64, 3) := by decide +kernel
theorem dX12_tidy_12 : decode cX12_tidy 12 = .ok (.iconst 0, 1) := by decide +kernel
theorem dX12_tidy_13 : decode cX12_tidy 13 = .ok (.istore_n 3, 1) := by decide +kernel
theorem dX12_tidy_14 : decode cX12_tidy 14 = .ok (.iload_n 3, 1) := by decide +kernel
theorem dX12_tidy_15 : decode cX12_tidy 15 = .ok (.aload_n 0, 1) := by decide +kernel
theorem dX12_tidy_16 : decode cX12_tidy 16 = .ok (.getfield 39, 3) := by decide +kernel
theorem dX12_tidy_19 : decode cX12_tidy 19 = .ok (.iload_n 2, 1) := by decide +kernel
theorem dX12_tidy_20 : decode cX12_tidy 20 = .ok (.iaload, 1) := by decide +kernel
theorem dX12_tidy_21 : decode cX12_tidy 21 = .ok (.if_icmp .ge 30, 3) := by decide +kernel
theorem dX12_tidy_24 : decode cX12_tidy 24 = .ok (.aload_n 0, 1) := by decide +kernel
theorem dX12_tidy_25 : decode cX12_tidy 25 = .ok (.getfield 49, 3) := by decide +kernel
theorem dX12_tidy_28 : decode cX12_tidy 28 = .ok (.iload_n 1, 1) := by decide +kernel
theorem dX12_tidy_29 : decode cX12_tidy 29 = .ok (.iload_n 3, 1) := by decide +kernel
theorem dX12_tidy_30 : decode cX12_tidy 30 = .ok (.iadd, 1) := by decide +kernel
theorem dX12_tidy_31 : decode cX12_tidy 31 = .ok (.aload_n 0, 1) := by decide +kernel
theorem dX12_tidy_32 : decode cX12_tidy 32 = .ok (.getfield 46, 3) := by decide +kernel
theorem dX12_tidy_35 : decode cX12_tidy 35 = .ok (.aload_n 0, 1) := by decide +kernel
theorem dX12_tidy_36 : decode cX12_tidy 36 = .ok (.getfield 36, 3) := by decide +kernel
theorem dX12_tidy_39 : decode cX12_tidy 39 = .ok (.iload_n 2, 1) := by decide +kernel
theorem dX12_tidy_40 : decode cX12_tidy 40 = .ok (.iaload, 1) := by decide +kernel
theorem dX12_tidy_41 : decode cX12_tidy 41 = .ok (.iload_n 3, 1) := by decide +kernel
theorem dX12_tidy_42 : decode cX12_tidy 42 = .ok (.iadd, 1) := by decide +kernel
theorem dX12_tidy_43 : decode cX12_tidy 43 = .ok (.iaload, 1) := by decide +kernel
theorem dX12_tidy_44 : decode cX12_tidy 44 = .ok (.iastore, 1) := by decide +kernel
theorem dX12_tidy_45 : decode cX12_tidy 45 = .ok (.iinc 3 1, 3) := by decide +kernel
theorem dX12_tidy_48 : decode cX12_tidy 48 = .ok (.goto (-34), 3) := by decide +kernel
theorem dX12_tidy_51 : decode cX12_tidy 51 = .ok (.aload_n 0, 1) := by decide +kernel
theorem dX12_tidy_52 : decode cX12_tidy 52 = .ok (.getfield 36, 3) := by decide +kernel
theorem dX12_tidy_55 : decode cX12_tidy 55 = .ok (.iload_n 2, 1) := by decide +kernel
theorem dX12_tidy_56 : decode cX12_tidy 56 = .ok (.iload_n 1, 1) := by decide +kernel
theorem dX12_tidy_57 : decode cX12_tidy 57 = .ok (.iastore, 1) := by decide +kernel
theorem dX12_tidy_58 : decode cX12_tidy 58 = .ok (.iload_n 1, 1) := by decide +kernel
theorem dX12_tidy_59 : decode cX12_tidy 59 = .ok (.aload_n 0, 1) := by decide +kernel
theorem dX12_tidy_60 : decode cX12_tidy 60 = .ok (.getfield 39, 3) := by decide +kernel
theorem dX12_tidy_63 : decode cX12_tidy 63 = .ok (.iload_n 2, 1) := by decide +kernel
theorem dX12_tidy_64 : decode cX12_tidy 64 = .ok (.iaload, 1) := by decide +kernel
theorem dX12_tidy_65 : decode cX12_tidy 65 = .ok (.iadd, 1) := by decide +kernel
theorem dX12_tidy_66 : decode cX12_tidy 66 = .ok (.istore_n 1, 1) := by decide +kernel
theorem dX12_tidy_67 : decode cX12_tidy 67 = .ok (.iinc 2 1, 3) := by decide +kernel
theorem dX12_tidy_70 : decode cX12_tidy 70 = .ok (.goto (-66), 3) := by decide +kernel
theorem dX12_tidy_73 : decode cX12_tidy 73 = .ok (.aload_n 0, 1) := by decide +kernel
theorem dX12_tidy_74 : decode cX12_tidy 74 = .ok (.getfield 46, 3) := by decide +kernel
theorem dX12_tidy_77 : decode cX12_tidy 77 = .ok (.astore_n 2, 1) := by decide +kernel
theorem dX12_tidy_78 : decode cX12_tidy 78 = .ok (.aload_n 0, 1) := by decide +kernel
theorem dX12_tidy_79 : decode cX12_tidy 79 = .ok (.aload_n 0, 1) := by decide +kernel
theorem dX12_tidy_80 : decode cX12_tidy 80 = .ok (.getfield 49, 3) := by decide +kernel
theorem dX12_tidy_83 : decode cX12_tidy 83 = .ok (.putfield 46, 3) := by decide +kernel
theorem dX12_tidy_86 : decode cX12_tidy 86 = .ok (.aload_n 0, 1) := by decide +kernel
theorem dX12_tidy_87 : decode cX12_tidy 87 = .ok (.aload_n 2, 1) := by decide +kernel
theorem dX12_tidy_88 : decode cX12_tidy 88 = .ok (.putfield 49, 3) := by decide +kernel
theorem dX12_tidy_91 : decode cX12_tidy 91 = .ok (.aload_n 0, 1) := by decide +kernel
theorem dX12_tidy_92 : decode cX12_tidy 92 = .ok (.iload_n 1, 1) := by decide +kernel
theorem dX12_tidy_93 : decode cX12_tidy 93 = .ok (.putfield 298, 3) := by decide +kernel
theorem dX12_tidy_96 : decode cX12_tidy 96 = .ok (.return_, 1) := by decide +kernel
theorem dX12_base_0 : decode cX12_base 0 = .ok (.aload_n 0, 1) := by decide +kernel
theorem dX12_base_1 : decode cX12_base 1 = .ok (.getfield 46, 3) := by decide +kernel
theorem dX12_base_4 : decode cX12_base 4 = .ok (.aload_n 0, 1) := by decide +kernel
theorem dX12_base_5 : decode cX12_base 5 = .ok (.getfield 36, 3) := by decide +kernel
theorem dX12_base_8 : decode cX12_base 8 = .ok (.iload_n 1, 1) := by decide +kernel
theorem dX12_base_9 : decode cX12_base 9 = .ok (.iaload, 1) := by decide +kernel
theorem dX12_base_10 : decode cX12_base 10 = .ok (.bipush 8, 2) := by decide +kernel
theorem dX12_base_12 : decode cX12_base 12 = .ok (.invokestatic 257, 3) := by decide +kernel
theorem dX12_base_15 : decode cX12_base 15 = .ok (.lreturn, 1) := by decide +kernel
theorem dX12_last_0 : decode cX12_last 0 = .ok (.aload_n 0, 1) := by decide +kernel
theorem dX12_last_1 : decode cX12_last 1 = .ok (.getfield 46, 3) := by decide +kernel
theorem dX12_last_4 : decode cX12_last 4 = .ok (.aload_n 0, 1) := by decide +kernel
theorem dX12_last_5 : decode cX12_last 5 = .ok (.getfield 36, 3) := by decide +kernel
theorem dX12_last_8 : decode cX12_last 8 = .ok (.iload_n 1, 1) := by decide +kernel
theorem dX12_last_9 : decode cX12_last 9 = .ok (.iaload, 1) := by decide +kernel
theorem dX12_last_10 : decode cX12_last 10 = .ok (.bipush 23, 2) := by decide +kernel
theorem dX12_last_12 : decode cX12_last 12 = .ok (.iadd, 1) := by decide +kernel
theorem dX12_last_13 : decode cX12_last 13 = .ok (.iconst 4, 1) := by decide +kernel
theorem dX12_last_14 : decode cX12_last 14 = .ok (.invokestatic 257, 3) := by decide +kernel
theorem dX12_last_17 : decode cX12_last 17 = .ok (.l2i, 1) := by decide +kernel
theorem dX12_last_18 : decode cX12_last 18 = .ok (.ireturn, 1) := by decide +kernel
theorem dX12_producerOf_0 : decode cX12_producerOf 0 = .ok (.aload_n 0, 1) := by decide +kernel
theorem dX12_producerOf_1 : decode cX12_producerOf 1 = .ok (.getfield 46, 3) := by decide +kernel
theorem dX12_producerOf_4 : decode cX12_producerOf 4 = .ok (.aload_n 0, 1) := by decide +kernel
theorem dX12_producerOf_5 : decode cX12_producerOf 5 = .ok (.getfield 36, 3) := by decide +kernel
theorem dX12_producerOf_8 : decode cX12_producerOf 8 = .ok (.iload_n 1, 1) := by decide +kernel
theorem dX12_producerOf_9 : decode cX12_producerOf 9 = .ok (.iaload, 1) := by decide +kernel
theorem dX12_producerOf_10 : decode cX12_producerOf 10 = .ok (.bipush 43, 2) := by decide +kernel
theorem dX12_producerOf_12 : decode cX12_producerOf 12 = .ok (.iadd, 1) := by decide +kernel
theorem dX12_producerOf_13 : decode cX12_producerOf 13 = .ok (.bipush 8, 2) := by decide +kernel
theorem dX12_producerOf_15 : decode cX12_producerOf 15 = .ok (.invokestatic 257, 3) := by decide +kernel
theorem dX12_producerOf_18 : decode cX12_producerOf 18 = .ok (.lreturn, 1) := by decide +kernel
theorem dX12_epochOf_0 : decode cX12_epochOf 0 = .ok (.aload_n 0, 1) := by decide +kernel
theorem dX12_epochOf_1 : decode cX12_epochOf 1 = .ok (.getfield 46, 3) := by decide +kernel
theorem dX12_epochOf_4 : decode cX12_epochOf 4 = .ok (.aload_n 0, 1) := by decide +kernel
theorem dX12_epochOf_5 : decode cX12_epochOf 5 = .ok (.getfield 36, 3) := by decide +kernel
theorem dX12_epochOf_8 : decode cX12_epochOf 8 = .ok (.iload_n 1, 1) := by decide +kernel
theorem dX12_epochOf_9 : decode cX12_epochOf 9 = .ok (.iaload, 1) := by decide +kernel
theorem dX12_epochOf_10 : decode cX12_epochOf 10 = .ok (.bipush 51, 2) := by decide +kernel
theorem dX12_epochOf_12 : decode cX12_epochOf 12 = .ok (.iadd, 1) := by decide +kernel
theorem dX12_epochOf_13 : decode cX12_epochOf 13 = .ok (.iconst 2, 1) := by decide +kernel
theorem dX12_epochOf_14 : decode cX12_epochOf 14 = .ok (.invokestatic 257, 3) := by decide +kernel
theorem dX12_epochOf_17 : decode cX12_epochOf 17 = .ok (.l2i, 1) := by decide +kernel
theorem dX12_epochOf_18 : decode cX12_epochOf 18 = .ok (.ireturn, 1) := by decide +kernel
theorem dX12_sequenceOf_0 : decode cX12_sequenceOf 0 = .ok (.aload_n 0, 1) := by decide +kernel
theorem dX12_sequenceOf_1 : decode cX12_sequenceOf 1 = .ok (.getfield 46, 3) := by decide +kernel
theorem dX12_sequenceOf_4 : decode cX12_sequenceOf 4 = .ok (.aload_n 0, 1) := by decide +kernel
theorem dX12_sequenceOf_5 : decode cX12_sequenceOf 5 = .ok (.getfield 36, 3) := by decide +kernel
theorem dX12_sequenceOf_8 : decode cX12_sequenceOf 8 = .ok (.iload_n 1, 1) := by decide +kernel
theorem dX12_sequenceOf_9 : decode cX12_sequenceOf 9 = .ok (.iaload, 1) := by decide +kernel
theorem dX12_sequenceOf_10 : decode cX12_sequenceOf 10 = .ok (.bipush 53, 2) := by decide +kernel
theorem dX12_sequenceOf_12 : decode cX12_sequenceOf 12 = .ok (.iadd, 1) := by decide +kernel
theorem dX12_sequenceOf_13 : decode cX12_sequenceOf 13 = .ok (.iconst 4, 1) := by decide +kernel
theorem dX12_sequenceOf_14 : decode cX12_sequenceOf 14 = .ok (.invokestatic 257, 3) := by decide +kernel
theorem dX12_sequenceOf_17 : decode cX12_sequenceOf 17 = .ok (.l2i, 1) := by decide +kernel
theorem dX12_sequenceOf_18 : decode cX12_sequenceOf 18 = .ok (.ireturn, 1) := by decide +kernel
theorem dX12_countOf_0 : decode cX12_countOf 0 = .ok (.aload_n 0, 1) := by decide +kernel
theorem dX12_countOf_1 : decode cX12_countOf 1 = .ok (.getfield 46, 3) := by decide +kernel
theorem dX12_countOf_4 : decode cX12_countOf 4 = .ok (.aload_n 0, 1) := by decide +kernel
theorem dX12_countOf_5 : decode cX12_countOf 5 = .ok (.getfield 36, 3) := by decide +kernel
theorem dX12_countOf_8 : decode cX12_countOf 8 = .ok (.iload_n 1, 1) := by decide +kernel
theorem dX12_countOf_9 : decode cX12_countOf 9 = .ok (.iaload, 1) := by decide +kernel
theorem dX12_countOf_10 : decode cX12_countOf 10 = .ok (.bipush 57, 2) := by decide +kernel
theorem dX12_countOf_12 : decode cX12_countOf 12 = .ok (.iadd, 1) := by decide +kernel
theorem dX12_countOf_13 : decode cX12_countOf 13 = .ok (.iconst 4, 1) := by decide +kernel
theorem dX12_countOf_14 : decode cX12_countOf 14 = .ok (.invokestatic 257, 3) := by decide +kernel
theorem dX12_countOf_17 : decode cX12_countOf 17 = .ok (.l2i, 1) := by decide +kernel
theorem dX12_countOf_18 : decode cX12_countOf 18 = .ok (.ireturn, 1) := by decide +kernel
theorem dX12_readsBatch_0 : decode cX12_readsBatch 0 = .ok (.aload_n 0, 1) := by decide +kernel
theorem dX12_readsBatch_1 : decode cX12_readsBatch 1 = .ok (.aload_n 0, 1) := by decide +kernel
theorem dX12_readsBatch_2 : decode cX12_readsBatch 2 = .ok (.getfield 46, 3) := by decide +kernel
theorem dX12_readsBatch_5 : decode cX12_readsBatch 5 = .ok (.aload_n 0, 1) := by decide +kernel
theorem dX12_readsBatch_6 : decode cX12_readsBatch 6 = .ok (.getfield 36, 3) := by decide +kernel
theorem dX12_readsBatch_9 : decode cX12_readsBatch 9 = .ok (.iload_n 1, 1) := by decide +kernel
theorem dX12_readsBatch_10 : decode cX12_readsBatch 10 = .ok (.iaload, 1) := by decide +kernel
theorem dX12_readsBatch_11 : decode cX12_readsBatch 11 = .ok (.bipush 61, 2) := by decide +kernel
theorem dX12_readsBatch_13 : decode cX12_readsBatch 13 = .ok (.iadd, 1) := by decide +kernel
theorem dX12_readsBatch_14 : decode cX12_readsBatch 14 = .ok (.aload_n 0, 1) := by decide +kernel
theorem dX12_readsBatch_15 : decode cX12_readsBatch 15 = .ok (.getfield 36, 3) := by decide +kernel
theorem dX12_readsBatch_18 : decode cX12_readsBatch 18 = .ok (.iload_n 1, 1) := by decide +kernel
theorem dX12_readsBatch_19 : decode cX12_readsBatch 19 = .ok (.iaload, 1) := by decide +kernel
theorem dX12_readsBatch_20 : decode cX12_readsBatch 20 = .ok (.aload_n 0, 1) := by decide +kernel
theorem dX12_readsBatch_21 : decode cX12_readsBatch 21 = .ok (.getfield 39, 3) := by decide +kernel
theorem dX12_readsBatch_24 : decode cX12_readsBatch 24 = .ok (.iload_n 1, 1) := by decide +kernel
theorem dX12_readsBatch_25 : decode cX12_readsBatch 25 = .ok (.iaload, 1) := by decide +kernel
theorem dX12_readsBatch_26 : decode cX12_readsBatch 26 = .ok (.iadd, 1) := by decide +kernel
theorem dX12_readsBatch_27 : decode cX12_readsBatch 27 = .ok (.invokevirtual 275, 3) := by decide +kernel
theorem dX12_readsBatch_30 : decode cX12_readsBatch 30 = .ok (.return_, 1) := by decide +kernel
theorem dX12_firstTime_0 : decode cX12_firstTime 0 = .ok (.aload_n 0, 1) := by decide +kernel
theorem dX12_firstTime_1 : decode cX12_firstTime 1 = .ok (.getfield 46, 3) := by decide +kernel
theorem dX12_firstTime_4 : decode cX12_firstTime 4 = .ok (.aload_n 0, 1) := by decide +kernel
theorem dX12_firstTime_5 : decode cX12_firstTime 5 = .ok (.getfield 36, 3) := by decide +kernel
theorem dX12_firstTime_8 : decode cX12_firstTime 8 = .ok (.iload_n 1, 1) := by decide +kernel
theorem dX12_firstTime_9 : decode cX12_firstTime 9 = .ok (.iaload, 1) := by decide +kernel
theorem dX12_firstTime_10 : decode cX12_firstTime 10 = .ok (.bipush 27, 2) := by decide +kernel
theorem dX12_firstTime_12 : decode cX12_firstTime 12 = .ok (.iadd, 1) := by decide +kernel
theorem dX12_firstTime_13 : decode cX12_firstTime 13 = .ok (.bipush 8, 2) := by decide +kernel
theorem dX12_firstTime_15 : decode cX12_firstTime 15 = .ok (.invokestatic 257, 3) := by decide +kernel
theorem dX12_firstTime_18 : decode cX12_firstTime 18 = .ok (.lreturn, 1) := by decide +kernel
theorem dX12_append_0 : decode cX12_append 0 = .ok (.bipush 60, 2) := by decide +kernel
theorem dX12_append_2 : decode cX12_append 2 = .ok (.iload_n 1, 1) := by decide +kernel
theorem dX12_append_3 : decode cX12_append 3 = .ok (.imul, 1) := by decide +kernel
theorem dX12_append_4 : decode cX12_append 4 = .ok (.aload_n 0, 1) := by decide +kernel
theorem dX12_append_5 : decode cX12_append 5 = .ok (.getfield 58, 3) := by decide +kernel
theorem dX12_append_8 : decode cX12_append 8 = .ok (.iload_n 1, 1) := by decide +kernel
theorem dX12_append_9 : decode cX12_append 9 = .ok (.iaload, 1) := by decide +kernel
theorem dX12_append_10 : decode cX12_append 10 = .ok (.iadd, 1) := by decide +kernel
theorem dX12_append_11 : decode cX12_append 11 = .ok (.iconst 1, 1) := by decide +kernel
theorem dX12_append_12 : decode cX12_append 12 = .ok (.isub, 1) := by decide +kernel
theorem dX12_append_13 : decode cX12_append 13 = .ok (.istore 4, 2) := by decide +kernel
theorem dX12_append_15 : decode cX12_append 15 = .ok (.aload_n 0, 1) := by decide +kernel
theorem dX12_append_16 : decode cX12_append 16 = .ok (.getfield 58, 3) := by decide +kernel
theorem dX12_append_19 : decode cX12_append 19 = .ok (.iload_n 1, 1) := by decide +kernel
theorem dX12_append_20 : decode cX12_append 20 = .ok (.iaload, 1) := by decide +kernel
theorem dX12_append_21 : decode cX12_append 21 = .ok (.ifCond .le 27, 3) := by decide +kernel
theorem dX12_append_24 : decode cX12_append 24 = .ok (.aload_n 0, 1) := by decide +kernel
theorem dX12_append_25 : decode cX12_append 25 = .ok (.getfield 64, 3) := by decide +kernel
theorem dX12_append_28 : decode cX12_append 28 = .ok (.iload 4, 2) := by decide +kernel
theorem dX12_append_30 : decode cX12_append 30 = .ok (.iaload, 1) := by decide +kernel
theorem dX12_append_31 : decode cX12_append 31 = .ok (.iload_n 3, 1) := by decide +kernel
theorem dX12_append_32 : decode cX12_append 32 = .ok (.iadd, 1) := by decide +kernel
theorem dX12_append_33 : decode cX12_append 33 = .ok (.sipush 1024, 3) := by decide +kernel
theorem dX12_append_36 : decode cX12_append 36 = .ok (.aload_n 0, 1) := by decide +kernel
theorem dX12_append_37 : decode cX12_append 37 = .ok (.getfield 139, 3) := by decide +kernel
theorem dX12_append_40 : decode cX12_append 40 = .ok (.imul, 1) := by decide +kernel
theorem dX12_append_41 : decode cX12_append 41 = .ok (.if_icmp .gt 7, 3) := by decide +kernel
theorem dX12_append_44 : decode cX12_append 44 = .ok (.iconst 1, 1) := by decide +kernel
theorem dX12_append_45 : decode cX12_append 45 = .ok (.goto 4, 3) := by decide +kernel
theorem dX12_append_48 : decode cX12_append 48 = .ok (.iconst 0, 1) := by decide +kernel
theorem dX12_append_49 : decode cX12_append 49 = .ok (.istore 5, 2) := by decide +kernel
theorem dX12_append_51 : decode cX12_append 51 = .ok (.aload_n 0, 1) := by decide +kernel
theorem dX12_append_52 : decode cX12_append 52 = .ok (.invokevirtual 301, 3) := by decide +kernel
theorem dX12_append_55 : decode cX12_append 55 = .ok (.iload 5, 2) := by decide +kernel
theorem dX12_append_57 : decode cX12_append 57 = .ok (.ifCond .eq 13, 3) := by decide +kernel
theorem dX12_append_60 : decode cX12_append 60 = .ok (.aload_n 0, 1) := by decide +kernel
theorem dX12_append_61 : decode cX12_append 61 = .ok (.getfield 61, 3) := by decide +kernel
theorem dX12_append_64 : decode cX12_append 64 = .ok (.iload 4, 2) := by decide +kernel
theorem dX12_append_66 : decode cX12_append 66 = .ok (.iaload, 1) := by decide +kernel
theorem dX12_append_67 : decode cX12_append 67 = .ok (.goto 22, 3) := by decide +kernel
theorem dX12_append_70 : decode cX12_append 70 = .ok (.aload_n 0, 1) := by decide +kernel
theorem dX12_append_71 : decode cX12_append 71 = .ok (.getfield 58, 3) := by decide +kernel
theorem dX12_append_74 : decode cX12_append 74 = .ok (.iload_n 1, 1) := by decide +kernel
theorem dX12_append_75 : decode cX12_append 75 = .ok (.iaload, 1) := by decide +kernel
theorem dX12_append_76 : decode cX12_append 76 = .ok (.bipush 60, 2) := by decide +kernel
theorem dX12_append_78 : decode cX12_append 78 = .ok (.if_icmp .ne 7, 3) := by decide +kernel
theorem dX12_append_81 : decode cX12_append 81 = .ok (.iconst (-1), 1) := by decide +kernel
theorem dX12_append_82 : decode cX12_append 82 = .ok (.goto 7, 3) := by decide +kernel
theorem dX12_append_85 : decode cX12_append 85 = .ok (.aload_n 0, 1) := by decide +kernel
theorem dX12_append_86 : decode cX12_append 86 = .ok (.invokevirtual 304, 3) := by decide +kernel
theorem dX12_append_89 : decode cX12_append 89 = .ok (.istore 6, 2) := by decide +kernel
theorem dX12_append_91 : decode cX12_append 91 = .ok (.iload 6, 2) := by decide +kernel
theorem dX12_append_93 : decode cX12_append 93 = .ok (.ifCond .ge 6, 3) := by decide +kernel
theorem dX12_append_96 : decode cX12_append 96 = .ok (.bipush (-2), 2) := by decide +kernel
theorem dX12_append_98 : decode cX12_append 98 = .ok (.ireturn, 1) := by decide +kernel
theorem dX12_append_99 : decode cX12_append 99 = .ok (.aload_n 0, 1) := by decide +kernel
theorem dX12_append_100 : decode cX12_append 100 = .ok (.iload 5, 2) := by decide +kernel
theorem dX12_append_102 : decode cX12_append 102 = .ok (.ifCond .eq 13, 3) := by decide +kernel
theorem dX12_append_105 : decode cX12_append 105 = .ok (.aload_n 0, 1) := by decide +kernel
theorem dX12_append_106 : decode cX12_append 106 = .ok (.getfield 64, 3) := by decide +kernel
theorem dX12_append_109 : decode cX12_append 109 = .ok (.iload 4, 2) := by decide +kernel
theorem dX12_append_111 : decode cX12_append 111 = .ok (.iaload, 1) := by decide +kernel
theorem dX12_append_112 : decode cX12_append 112 = .ok (.goto 4, 3) := by decide +kernel
theorem dX12_append_115 : decode cX12_append 115 = .ok (.iconst 0, 1) := by decide +kernel
theorem dX12_append_116 : decode cX12_append 116 = .ok (.iload_n 3, 1) := by decide +kernel
theorem dX12_append_117 : decode cX12_append 117 = .ok (.invokestatic 307, 3) := by decide +kernel
theorem dX12_append_120 : decode cX12_append 120 = .ok (.iconst 1, 1) := by decide +kernel
theorem dX12_append_121 : decode cX12_append 121 = .ok (.iadd, 1) := by decide +kernel
theorem dX12_append_122 : decode cX12_append 122 = .ok (.invokevirtual 311, 3) := by decide +kernel
theorem dX12_append_125 : decode cX12_append 125 = .ok (.ifCond .eq 207, 3) := by decide +kernel
theorem dX12_append_128 : decode cX12_append 128 = .ok (.iload 5, 2) := by decide +kernel
theorem dX12_append_130 : decode cX12_append 130 = .ok (.ifCond .ne 43, 3) := by decide +kernel
theorem dX12_append_133 : decode cX12_append 133 = .ok (.bipush 60, 2) := by decide +kernel
theorem dX12_append_135 : decode cX12_append 135 = .ok (.iload_n 1, 1) := by decide +kernel
theorem dX12_append_136 : decode cX12_append 136 = .ok (.imul, 1) := by decide +kernel
theorem dX12_append_137 : decode cX12_append 137 = .ok (.aload_n 0, 1) := by decide +kernel
theorem dX12_append_138 : decode cX12_append 138 = .ok (.getfield 58, 3) := by decide +kernel
theorem dX12_append_141 : decode cX12_append 141 = .ok (.iload_n 1, 1) := by decide +kernel
theorem dX12_append_142 : decode cX12_append 142 = .ok (.iaload, 1) := by decide +kernel
theorem dX12_append_143 : decode cX12_append 143 = .ok (.iadd, 1) := by decide +kernel
theorem dX12_append_144 : decode cX12_append 144 = .ok (.istore 4, 2) := by decide +kernel
theorem dX12_append_146 : decode cX12_append 146 = .ok (.aload_n 0, 1) := by decide +kernel
theorem dX12_append_147 : decode cX12_append 147 = .ok (.getfield 61, 3) := by decide +kernel
theorem dX12_append_150 : decode cX12_append 150 = .ok (.iload 4, 2) := by decide +kernel
theorem dX12_append_152 : decode cX12_append 152 = .ok (.iload 6, 2) := by decide +kernel
theorem dX12_append_154 : decode cX12_append 154 = .ok (.iastore, 1) := by decide +kernel
theorem dX12_append_155 : decode cX12_append 155 = .ok (.aload_n 0, 1) := by decide +kernel
theorem dX12_append_156 : decode cX12_append 156 = .ok (.getfield 64, 3) := by decide +kernel
theorem dX12_append_159 : decode cX12_append 159 = .ok (.iload 4, 2) := by decide +kernel
theorem dX12_append_161 : decode cX12_append 161 = .ok (.iconst 0, 1) := by decide +kernel
theorem dX12_append_162 : decode cX12_append 162 = .ok (.iastore, 1) := by decide +kernel
theorem dX12_append_163 : decode cX12_append 163 = .ok (.aload_n 0, 1) := by decide +kernel
theorem dX12_append_164 : decode cX12_append 164 = .ok (.getfield 58, 3) := by decide +kernel
theorem dX12_append_167 : decode cX12_append 167 = .ok (.iload_n 1, 1) := by decide +kernel
theorem dX12_append_168 : decode cX12_append 168 = .ok (.dup2, 1) := by decide +kernel
theorem dX12_append_169 : decode cX12_append 169 = .ok (.iaload, 1) := by decide +kernel
theorem dX12_append_170 : decode cX12_append 170 = .ok (.iconst 1, 1) := by decide +kernel
theorem dX12_append_171 : decode cX12_append 171 = .ok (.iadd, 1) := by decide +kernel
theorem dX12_append_172 : decode cX12_append 172 = .ok (.iastore, 1) := by decide +kernel
theorem dX12_append_173 : decode cX12_append 173 = .ok (.aload_n 0, 1) := by decide +kernel
theorem dX12_append_174 : decode cX12_append 174 = .ok (.getfield 64, 3) := by decide +kernel
theorem dX12_append_177 : decode cX12_append 177 = .ok (.iload 4, 2) := by decide +kernel
theorem dX12_append_179 : decode cX12_append 179 = .ok (.dup2, 1) := by decide +kernel
theorem dX12_append_180 : decode cX12_append 180 = .ok (.iaload, 1) := by decide +kernel
theorem dX12_append_181 : decode cX12_append 181 = .ok (.iload_n 3, 1) := by decide +kernel
theorem dX12_append_182 : decode cX12_append 182 = .ok (.iadd, 1) := by decide +kernel
theorem dX12_append_183 : decode cX12_append 183 = .ok (.iastore, 1) := by decide +kernel
theorem dX12_append_184 : decode cX12_append 184 = .ok (.aload_n 0, 1) := by decide +kernel
theorem dX12_append_185 : decode cX12_append 185 = .ok (.getfield 298, 3) := by decide +kernel
theorem dX12_append_188 : decode cX12_append 188 = .ok (.iload_n 3, 1) := by decide +kernel
theorem dX12_append_189 : decode cX12_append 189 = .ok (.iadd, 1) := by decide +kernel
theorem dX12_append_190 : decode cX12_append 190 = .ok (.ldc_w 315, 3) := by decide +kernel
theorem dX12_append_193 : decode cX12_append 193 = .ok (.if_icmp .le 7, 3) := by decide +kernel
theorem dX12_append_196 : decode cX12_append 196 = .ok (.aload_n 0, 1) := by decide +kernel
theorem dX12_append_197 : decode cX12_append 197 = .ok (.invokevirtual 316, 3) := by decide +kernel
theorem dX12_append_200 : decode cX12_append 200 = .ok (.iconst 0, 1) := by decide +kernel
theorem dX12_append_201 : decode cX12_append 201 = .ok (.istore 7, 2) := by decide +kernel
theorem dX12_append_203 : decode cX12_append 203 = .ok (.iload 7, 2) := by decide +kernel
theorem dX12_append_205 : decode cX12_append 205 = .ok (.iload_n 3, 1) := by decide +kernel
theorem dX12_append_206 : decode cX12_append 206 = .ok (.if_icmp .ge 25, 3) := by decide +kernel
theorem dX12_append_209 : decode cX12_append 209 = .ok (.aload_n 0, 1) := by decide +kernel
theorem dX12_append_210 : decode cX12_append 210 = .ok (.getfield 46, 3) := by decide +kernel
theorem dX12_append_213 : decode cX12_append 213 = .ok (.aload_n 0, 1) := by decide +kernel
theorem dX12_append_214 : decode cX12_append 214 = .ok (.getfield 298, 3) := by decide +kernel
theorem dX12_append_217 : decode cX12_append 217 = .ok (.iload 7, 2) := by decide +kernel
theorem dX12_append_219 : decode cX12_append 219 = .ok (.iadd, 1) := by decide +kernel
theorem dX12_append_220 : decode cX12_append 220 = .ok (.aload_n 2, 1) := by decide +kernel
theorem dX12_append_221 : decode cX12_append 221 = .ok (.iload 7, 2) := by decide +kernel
theorem dX12_append_223 : decode cX12_append 223 = .ok (.iaload, 1) := by decide +kernel
theorem dX12_append_224 : decode cX12_append 224 = .ok (.iastore, 1) := by decide +kernel
theorem dX12_append_225 : decode cX12_append 225 = .ok (.iinc 7 1, 3) := by decide +kernel
theorem dX12_append_228 : decode cX12_append 228 = .ok (.goto (-25), 3) := by decide +kernel
theorem dX12_append_231 : decode cX12_append 231 = .ok (.aload_n 0, 1) := by decide +kernel
theorem dX12_append_232 : decode cX12_append 232 = .ok (.getfield 46, 3) := by decide +kernel
theorem dX12_append_235 : decode cX12_append 235 = .ok (.aload_n 0, 1) := by decide +kernel
theorem dX12_append_236 : decode cX12_append 236 = .ok (.getfield 298, 3) := by decide +kernel
theorem dX12_append_239 : decode cX12_append 239 = .ok (.aload_n 0, 1) := by decide +kernel
theorem dX12_append_240 : decode cX12_append 240 = .ok (.getfield 55, 3) := by decide +kernel
theorem dX12_append_243 : decode cX12_append 243 = .ok (.iload_n 1, 1) := by decide +kernel
theorem dX12_append_244 : decode cX12_append 244 = .ok (.laload, 1) := by decide +kernel
theorem dX12_append_245 : decode cX12_append 245 = .ok (.bipush 8, 2) := by decide +kernel
theorem dX12_append_247 : decode cX12_append 247 = .ok (.invokestatic 195, 3) := by decide +kernel
theorem dX12_append_250 : decode cX12_append 250 = .ok (.aload_n 0, 1) := by decide +kernel
theorem dX12_append_251 : decode cX12_append 251 = .ok (.getfield 33, 3) := by decide +kernel
theorem dX12_append_254 : decode cX12_append 254 = .ok (.aload_n 0, 1) := by decide +kernel
theorem dX12_append_255 : decode cX12_append 255 = .ok (.getfield 295, 3) := by decide +kernel
theorem dX12_append_258 : decode cX12_append 258 = .ok (.iload_n 1, 1) := by decide +kernel
theorem dX12_append_259 : decode cX12_append 259 = .ok (.iastore, 1) := by decide +kernel
theorem dX12_append_260 : decode cX12_append 260 = .ok (.aload_n 0, 1) := by decide +kernel
theorem dX12_append_261 : decode cX12_append 261 = .ok (.getfield 36, 3) := by decide +kernel
theorem dX12_append_264 : decode cX12_append 264 = .ok (.aload_n 0, 1) := by decide +kernel
theorem dX12_append_265 : decode cX12_append 265 = .ok (.getfield 295, 3) := by decide +kernel
theorem dX12_append_268 : decode cX12_append 268 = .ok (.aload_n 0, 1) := by decide +kernel
theorem dX12_append_269 : decode cX12_append 269 = .ok (.getfield 298, 3) := by decide +kernel
theorem dX12_append_272 : decode cX12_append 272 = .ok (.iastore, 1) := by decide +kernel
theorem dX12_append_273 : decode cX12_append 273 = .ok (.aload_n 0, 1) := by decide +kernel
theorem dX12_append_274 : decode cX12_append 274 = .ok (.getfield 39, 3) := by decide +kernel
theorem dX12_append_277 : decode cX12_append 277 = .ok (.aload_n 0, 1) := by decide +kernel
theorem dX12_append_278 : decode cX12_append 278 = .ok (.getfield 295, 3) := by decide +kernel
theorem dX12_append_281 : decode cX12_append 281 = .ok (.iload_n 3, 1) := by decide +kernel
theorem dX12_append_282 : decode cX12_append 282 = .ok (.iastore, 1) := by decide +kernel
theorem dX12_append_283 : decode cX12_append 283 = .ok (.aload_n 0, 1) := by decide +kernel
theorem dX12_append_284 : decode cX12_append 284 = .ok (.getfield 42, 3) := by decide +kernel
theorem dX12_append_287 : decode cX12_append 287 = .ok (.aload_n 0, 1) := by decide +kernel
theorem dX12_append_288 : decode cX12_append 288 = .ok (.getfield 295, 3) := by decide +kernel
theorem dX12_append_291 : decode cX12_append 291 = .ok (.iload 6, 2) := by decide +kernel
theorem dX12_append_293 : decode cX12_append 293 = .ok (.iastore, 1) := by decide +kernel
theorem dX12_append_294 : decode cX12_append 294 = .ok (.aload_n 0, 1) := by decide +kernel
theorem dX12_append_295 : decode cX12_append 295 = .ok (.dup, 1) := by decide +kernel
theorem dX12_append_296 : decode cX12_append 296 = .ok (.getfield 298, 3) := by decide +kernel
theorem dX12_append_299 : decode cX12_append 299 = .ok (.iload_n 3, 1) := by decide +kernel
theorem dX12_append_300 : decode cX12_append 300 = .ok (.iadd, 1) := by decide +kernel
theorem dX12_append_301 : decode cX12_append 301 = .ok (.putfield 298, 3) := by decide +kernel
theorem dX12_append_304 : decode cX12_append 304 = .ok (.aload_n 0, 1) := by decide +kernel
theorem dX12_append_305 : decode cX12_append 305 = .ok (.getfield 55, 3) := by decide +kernel
theorem dX12_append_308 : decode cX12_append 308 = .ok (.iload_n 1, 1) := by decide +kernel
theorem dX12_append_309 : decode cX12_append 309 = .ok (.dup2, 1) := by decide +kernel
theorem dX12_append_310 : decode cX12_append 310 = .ok (.laload, 1) := by decide +kernel
theorem dX12_append_311 : decode cX12_append 311 = .ok (.aload_n 0, 1) := by decide +kernel
theorem dX12_append_312 : decode cX12_append 312 = .ok (.aload_n 0, 1) := by decide +kernel
theorem dX12_append_313 : decode cX12_append 313 = .ok (.getfield 295, 3) := by decide +kernel
theorem dX12_append_316 : decode cX12_append 316 = .ok (.invokevirtual 319, 3) := by decide +kernel
theorem dX12_append_319 : decode cX12_append 319 = .ok (.i2l, 1) := by decide +kernel
theorem dX12_append_320 : decode cX12_append 320 = .ok (.ladd, 1) := by decide +kernel
theorem dX12_append_321 : decode cX12_append 321 = .ok (.lastore, 1) := by decide +kernel
theorem dX12_append_322 : decode cX12_append 322 = .ok (.aload_n 0, 1) := by decide +kernel
theorem dX12_append_323 : decode cX12_append 323 = .ok (.dup, 1) := by decide +kernel
theorem dX12_append_324 : decode cX12_append 324 = .ok (.getfield 295, 3) := by decide +kernel
theorem dX12_append_327 : decode cX12_append 327 = .ok (.iconst 1, 1) := by decide +kernel
theorem dX12_append_328 : decode cX12_append 328 = .ok (.iadd, 1) := by decide +kernel
theorem dX12_append_329 : decode cX12_append 329 = .ok (.putfield 295, 3) := by decide +kernel
theorem dX12_append_332 : decode cX12_append 332 = .ok (.aload_n 0, 1) := by decide +kernel
theorem dX12_append_333 : decode cX12_append 333 = .ok (.getfield 286, 3) := by decide +kernel
theorem dX12_append_336 : decode cX12_append 336 = .ok (.ifCond .eq 8, 3) := by decide +kernel
theorem dX12_append_339 : decode cX12_append 339 = .ok (.bipush (-3), 2) := by decide +kernel
theorem dX12_append_341 : decode cX12_append 341 = .ok (.goto 4, 3) := by decide +kernel
theorem dX12_append_344 : decode cX12_append 344 = .ok (.iconst 1, 1) := by decide +kernel
theorem dX12_append_345 : decode cX12_append 345 = .ok (.ireturn, 1) := by decide +kernel
theorem dX12_knownOne_0 : decode cX12_knownOne 0 = .ok (.iload 4, 2) := by decide +kernel
theorem dX12_knownOne_2 : decode cX12_knownOne 2 = .ok (.istore 5, 2) := by decide +kernel
theorem dX12_knownOne_4 : decode cX12_knownOne 4 = .ok (.aload_n 0, 1) := by decide +kernel
theorem dX12_knownOne_5 : decode cX12_knownOne 5 = .ok (.getfield 295, 3) := by decide +kernel
theorem dX12_knownOne_8 : decode cX12_knownOne 8 = .ok (.iconst 1, 1) := by decide +kernel
theorem dX12_knownOne_9 : decode cX12_knownOne 9 = .ok (.isub, 1) := by decide +kernel
theorem dX12_knownOne_10 : decode cX12_knownOne 10 = .ok (.istore 6, 2) := by decide +kernel
theorem dX12_knownOne_12 : decode cX12_knownOne 12 = .ok (.iload 6, 2) := by decide +kernel
theorem dX12_knownOne_14 : decode cX12_knownOne 14 = .ok (.ifCond .lt 54, 3) := by decide +kernel
theorem dX12_knownOne_17 : decode cX12_knownOne 17 = .ok (.iload 4, 2) := by decide +kernel
theorem dX12_knownOne_19 : decode cX12_knownOne 19 = .ok (.iconst 5, 1) := by decide +kernel
theorem dX12_knownOne_20 : decode cX12_knownOne 20 = .ok (.if_icmp .ge 48, 3) := by decide +kernel
theorem dX12_knownOne_23 : decode cX12_knownOne 23 = .ok (.lload_n 2, 1) := by decide +kernel
theorem dX12_knownOne_24 : decode cX12_knownOne 24 = .ok (.lconst 0, 1) := by decide +kernel
theorem dX12_knownOne_25 : decode cX12_knownOne 25 = .ok (.lcmp, 1) := by decide +kernel
theorem dX12_knownOne_26 : decode cX12_knownOne 26 = .ok (.ifCond .lt 42, 3) := by decide +kernel
theorem dX12_knownOne_29 : decode cX12_knownOne 29 = .ok (.aload_n 0, 1) := by decide +kernel
theorem dX12_knownOne_30 : decode cX12_knownOne 30 = .ok (.getfield 33, 3) := by decide +kernel
theorem dX12_knownOne_33 : decode cX12_knownOne 33 = .ok (.iload 6, 2) := by decide +kernel
theorem dX12_knownOne_35 : decode cX12_knownOne 35 = .ok (.iaload, 1) := by decide +kernel
theorem dX12_knownOne_36 : decode cX12_knownOne 36 = .ok (.iload_n 1, 1) := by decide +kernel
theorem dX12_knownOne_37 : decode cX12_knownOne 37 = .ok (.if_icmp .ne 25, 3) := by decide +kernel
theorem dX12_knownOne_40 : decode cX12_knownOne 40 = .ok (.aload_n 0, 1) := by decide +kernel
theorem dX12_knownOne_41 : decode cX12_knownOne 41 = .ok (.iload 6, 2) := by decide +kernel
theorem dX12_knownOne_43 : decode cX12_knownOne 43 = .ok (.invokevirtual 322, 3) := by decide +kernel
theorem dX12_knownOne_46 : decode cX12_knownOne 46 = .ok (.lload_n 2, 1) := by decide +kernel
theorem dX12_knownOne_47 : decode cX12_knownOne 47 = .ok (.lcmp, 1) := by decide +kernel
theorem dX12_knownOne_48 : decode cX12_knownOne 48 = .ok (.ifCond .ne 14, 3) := by decide +kernel
theorem dX12_knownOne_51 : decode cX12_knownOne 51 = .ok (.iload 5, 2) := by decide +kernel
theorem dX12_knownOne_53 : decode cX12_knownOne 53 = .ok (.ifCond .ne 6, 3) := by decide +kernel
theorem dX12_knownOne_56 : decode cX12_knownOne 56 = .ok (.iload 6, 2) := by decide +kernel
theorem dX12_knownOne_58 : decode cX12_knownOne 58 = .ok (.ireturn, 1) := by decide +kernel
theorem dX12_knownOne_59 : decode cX12_knownOne 59 = .ok (.iinc 5 (-1), 3) := by decide +kernel
theorem dX12_knownOne_62 : decode cX12_knownOne 62 = .ok (.iinc 6 (-1), 3) := by decide +kernel
theorem dX12_knownOne_65 : decode cX12_knownOne 65 = .ok (.goto (-53), 3) := by decide +kernel
theorem dX12_knownOne_68 : decode cX12_knownOne 68 = .ok (.iconst (-1), 1) := by decide +kernel
theorem dX12_knownOne_69 : decode cX12_knownOne 69 = .ok (.ireturn, 1) := by decide +kernel
theorem dX12_after_0 : decode cX12_after 0 = .ok (.iload_n 0, 1) := by decide +kernel
theorem dX12_after_1 : decode cX12_after 1 = .ok (.i2l, 1) := by decide +kernel
theorem dX12_after_2 : decode cX12_after 2 = .ok (.iload_n 1, 1) := by decide +kernel
theorem dX12_after_3 : decode cX12_after 3 = .ok (.i2l, 1) := by decide +kernel
theorem dX12_after_4 : decode cX12_after 4 = .ok (.ladd, 1) := by decide +kernel
theorem dX12_after_5 : decode cX12_after 5 = .ok (.lconst 1, 1) := by decide +kernel
theorem dX12_after_6 : decode cX12_after 6 = .ok (.ladd, 1) := by decide +kernel
theorem dX12_after_7 : decode cX12_after 7 = .ok (.ldc2_w 326, 3) := by decide +kernel
theorem dX12_after_10 : decode cX12_after 10 = .ok (.lrem, 1) := by decide +kernel
theorem dX12_after_11 : decode cX12_after 11 = .ok (.l2i, 1) := by decide +kernel
theorem dX12_after_12 : decode cX12_after 12 = .ok (.ireturn, 1) := by decide +kernel
theorem dX12_judged_0 : decode cX12_judged 0 = .ok (.aload_n 0, 1) := by decide +kernel
theorem dX12_judged_1 : decode cX12_judged 1 = .ok (.getfield 13, 3) := by decide +kernel
theorem dX12_judged_4 : decode cX12_judged 4 = .ok (.bipush 43, 2) := by decide +kernel
theorem dX12_judged_6 : decode cX12_judged 6 = .ok (.bipush 8, 2) := by decide +kernel
theorem dX12_judged_8 : decode cX12_judged 8 = .ok (.invokestatic 257, 3) := by decide +kernel
theorem dX12_judged_11 : decode cX12_judged 11 = .ok (.lstore_n 2, 1) := by decide +kernel
theorem dX12_judged_12 : decode cX12_judged 12 = .ok (.aload_n 0, 1) := by decide +kernel
theorem dX12_judged_13 : decode cX12_judged 13 = .ok (.getfield 13, 3) := by decide +kernel
theorem dX12_judged_16 : decode cX12_judged 16 = .ok (.bipush 51, 2) := by decide +kernel
theorem dX12_judged_18 : decode cX12_judged 18 = .ok (.iconst 2, 1) := by decide +kernel
theorem dX12_judged_19 : decode cX12_judged 19 = .ok (.invokestatic 257, 3) := by decide +kernel
theorem dX12_judged_22 : decode cX12_judged 22 = .ok (.l2i, 1) := by decide +kernel
theorem dX12_judged_23 : decode cX12_judged 23 = .ok (.istore 4, 2) := by decide +kernel
theorem dX12_judged_25 : decode cX12_judged 25 = .ok (.aload_n 0, 1) := by decide +kernel
theorem dX12_judged_26 : decode cX12_judged 26 = .ok (.getfield 13, 3) := by decide +kernel
theorem dX12_judged_29 : decode cX12_judged 29 = .ok (.bipush 53, 2) := by decide +kernel
theorem dX12_judged_31 : decode cX12_judged 31 = .ok (.iconst 4, 1) := by decide +kernel
theorem dX12_judged_32 : decode cX12_judged 32 = .ok (.invokestatic 257, 3) := by decide +kernel
theorem dX12_judged_35 : decode cX12_judged 35 = .ok (.l2i, 1) := by decide +kernel
theorem dX12_judged_36 : decode cX12_judged 36 = .ok (.istore 5, 2) := by decide +kernel
theorem dX12_judged_38 : decode cX12_judged 38 = .ok (.aload_n 0, 1) := by decide +kernel
theorem dX12_judged_39 : decode cX12_judged 39 = .ok (.iload_n 1, 1) := by decide +kernel
theorem dX12_judged_40 : decode cX12_judged 40 = .ok (.lload_n 2, 1) := by decide +kernel
theorem dX12_judged_41 : decode cX12_judged 41 = .ok (.iconst 0, 1) := by decide +kernel
theorem dX12_judged_42 : decode cX12_judged 42 = .ok (.invokevirtual 328, 3) := by decide +kernel
theorem dX12_judged_45 : decode cX12_judged 45 = .ok (.istore 6, 2) := by decide +kernel
theorem dX12_judged_47 : decode cX12_judged 47 = .ok (.iload 6, 2) := by decide +kernel
theorem dX12_judged_49 : decode cX12_judged 49 = .ok (.ifCond .ge 7, 3) := by decide +kernel
theorem dX12_judged_52 : decode cX12_judged 52 = .ok (.ldc2_w 205, 3) := by decide +kernel
theorem dX12_judged_55 : decode cX12_judged 55 = .ok (.lreturn, 1) := by decide +kernel
theorem dX12_judged_56 : decode cX12_judged 56 = .ok (.iload 4, 2) := by decide +kernel
theorem dX12_judged_58 : decode cX12_judged 58 = .ok (.aload_n 0, 1) := by decide +kernel
theorem dX12_judged_59 : decode cX12_judged 59 = .ok (.iload 6, 2) := by decide +kernel
theorem dX12_judged_61 : decode cX12_judged 61 = .ok (.invokevirtual 332, 3) := by decide +kernel
theorem dX12_judged_64 : decode cX12_judged 64 = .ok (.if_icmp .ge 7, 3) := by decide +kernel
theorem dX12_judged_67 : decode cX12_judged 67 = .ok (.ldc2_w 335, 3) := by decide +kernel
theorem dX12_judged_70 : decode cX12_judged 70 = .ok (.lreturn, 1) := by decide +kernel
theorem dX12_judged_71 : decode cX12_judged 71 = .ok (.iconst 0, 1) := by decide +kernel
theorem dX12_judged_72 : decode cX12_judged 72 = .ok (.istore 7, 2) := by decide +kernel
theorem dX12_judged_74 : decode cX12_judged 74 = .ok (.iload 7, 2) := by decide +kernel
theorem dX12_judged_76 : decode cX12_judged 76 = .ok (.iconst 5, 1) := by decide +kernel
theorem dX12_judged_77 : decode cX12_judged 77 = .ok (.if_icmp .ge 74, 3) := by decide +kernel
theorem dX12_judged_80 : decode cX12_judged 80 = .ok (.aload_n 0, 1) := by decide +kernel
theorem dX12_judged_81 : decode cX12_judged 81 = .ok (.iload_n 1, 1) := by decide +kernel
theorem dX12_judged_82 : decode cX12_judged 82 = .ok (.lload_n 2, 1) := by decide +kernel
theorem dX12_judged_83 : decode cX12_judged 83 = .ok (.iload 7, 2) := by decide +kernel
theorem dX12_judged_85 : decode cX12_judged 85 = .ok (.invokevirtual 328, 3) := by decide +kernel
theorem dX12_judged_88 : decode cX12_judged 88 = .ok (.istore 8, 2) := by decide +kernel
theorem dX12_judged_90 : decode cX12_judged 90 = .ok (.iload 8, 2) := by decide +kernel
theorem dX12_judged_92 : decode cX12_judged 92 = .ok (.ifCond .lt 53, 3) := by decide +kernel
theorem dX12_judged_95 : decode cX12_judged 95 = .ok (.aload_n 0, 1) := by decide +kernel
theorem dX12_judged_96 : decode cX12_judged 96 = .ok (.iload 8, 2) := by decide +kernel
theorem dX12_judged_98 : decode cX12_judged 98 = .ok (.invokevirtual 332, 3) := by decide +kernel
theorem dX12_judged_101 : decode cX12_judged 101 = .ok (.iload 4, 2) := by decide +kernel
theorem dX12_judged_103 : decode cX12_judged 103 = .ok (.if_icmp .ne 42, 3) := by decide +kernel
theorem dX12_judged_106 : decode cX12_judged 106 = .ok (.aload_n 0, 1) := by decide +kernel
theorem dX12_judged_107 : decode cX12_judged 107 = .ok (.iload 8, 2) := by decide +kernel
theorem dX12_judged_109 : decode cX12_judged 109 = .ok (.invokevirtual 337, 3) := by decide +kernel
theorem dX12_judged_112 : decode cX12_judged 112 = .ok (.iload 5, 2) := by decide +kernel
theorem dX12_judged_114 : decode cX12_judged 114 = .ok (.if_icmp .ne 31, 3) := by decide +kernel
theorem dX12_judged_117 : decode cX12_judged 117 = .ok (.aload_n 0, 1) := by decide +kernel
theorem dX12_judged_118 : decode cX12_judged 118 = .ok (.iload 8, 2) := by decide +kernel
theorem dX12_judged_120 : decode cX12_judged 120 = .ok (.invokevirtual 340, 3) := by decide +kernel
theorem dX12_judged_123 : decode cX12_judged 123 = .ok (.i2l, 1) := by decide +kernel
theorem dX12_judged_124 : decode cX12_judged 124 = .ok (.aload_n 0, 1) := by decide +kernel
theorem dX12_judged_125 : decode cX12_judged 125 = .ok (.getfield 13, 3) := by decide +kernel
theorem dX12_judged_128 : decode cX12_judged 128 = .ok (.bipush 23, 2) := by decide +kernel
theorem dX12_judged_130 : decode cX12_judged 130 = .ok (.iconst 4, 1) := by decide +kernel
theorem dX12_judged_131 : decode cX12_judged 131 = .ok (.invokestatic 257, 3) := by decide +kernel
theorem dX12_judged_134 : decode cX12_judged 134 = .ok (.lcmp, 1) := by decide +kernel
theorem dX12_judged_135 : decode cX12_judged 135 = .ok (.ifCond .ne 10, 3) := by decide +kernel
theorem dX12_judged_138 : decode cX12_judged 138 = .ok (.aload_n 0, 1) := by decide +kernel
theorem dX12_judged_139 : decode cX12_judged 139 = .ok (.iload 8, 2) := by decide +kernel
theorem dX12_judged_141 : decode cX12_judged 141 = .ok (.invokevirtual 343, 3) := by decide +kernel
theorem dX12_judged_144 : decode cX12_judged 144 = .ok (.lreturn, 1) := by decide +kernel
theorem dX12_judged_145 : decode cX12_judged 145 = .ok (.iinc 7 1, 3) := by decide +kernel
theorem dX12_judged_148 : decode cX12_judged 148 = .ok (.goto (-74), 3) := by decide +kernel
theorem dX12_judged_151 : decode cX12_judged 151 = .ok (.iload 4, 2) := by decide +kernel
theorem dX12_judged_153 : decode cX12_judged 153 = .ok (.aload_n 0, 1) := by decide +kernel
theorem dX12_judged_154 : decode cX12_judged 154 = .ok (.iload 6, 2) := by decide +kernel
theorem dX12_judged_156 : decode cX12_judged 156 = .ok (.invokevirtual 332, 3) := by decide +kernel
theorem dX12_judged_159 : decode cX12_judged 159 = .ok (.if_icmp .le 7, 3) := by decide +kernel
theorem dX12_judged_162 : decode cX12_judged 162 = .ok (.iconst 0, 1) := by decide +kernel
theorem dX12_judged_163 : decode cX12_judged 163 = .ok (.goto 18, 3) := by decide +kernel
theorem dX12_judged_166 : decode cX12_judged 166 = .ok (.aload_n 0, 1) := by decide +kernel
theorem dX12_judged_167 : decode cX12_judged 167 = .ok (.iload 6, 2) := by decide +kernel
theorem dX12_judged_169 : decode cX12_judged 169 = .ok (.invokevirtual 337, 3) := by decide +kernel
theorem dX12_judged_172 : decode cX12_judged 172 = .ok (.aload_n 0, 1) := by decide +kernel
theorem dX12_judged_173 : decode cX12_judged 173 = .ok (.iload 6, 2) := by decide +kernel
theorem dX12_judged_175 : decode cX12_judged 175 = .ok (.invokevirtual 340, 3) := by decide +kernel
theorem dX12_judged_178 : decode cX12_judged 178 = .ok (.invokestatic 346, 3) := by decide +kernel
theorem dX12_judged_181 : decode cX12_judged 181 = .ok (.istore 7, 2) := by decide +kernel
theorem dX12_judged_183 : decode cX12_judged 183 = .ok (.iload 5, 2) := by decide +kernel
theorem dX12_judged_185 : decode cX12_judged 185 = .ok (.iload 7, 2) := by decide +kernel
theorem dX12_judged_187 : decode cX12_judged 187 = .ok (.if_icmp .ne 9, 3) := by decide +kernel
theorem dX12_judged_190 : decode cX12_judged 190 = .ok (.ldc2_w 205, 3) := by decide +kernel
theorem dX12_judged_193 : decode cX12_judged 193 = .ok (.goto 6, 3) := by decide +kernel
theorem dX12_judged_196 : decode cX12_judged 196 = .ok (.ldc2_w 349, 3) := by decide +kernel
theorem dX12_judged_199 : decode cX12_judged 199 = .ok (.lreturn, 1) := by decide +kernel
theorem dX12_producer_0 : decode cX12_producer 0 = .ok (.aload_n 0, 1) := by decide +kernel
theorem dX12_producer_1 : decode cX12_producer 1 = .ok (.aload_n 0, 1) := by decide +kernel
theorem dX12_producer_2 : decode cX12_producer 2 = .ok (.getfield 286, 3) := by decide +kernel
theorem dX12_producer_5 : decode cX12_producer 5 = .ok (.ifCond .eq 7, 3) := by decide +kernel
theorem dX12_producer_8 : decode cX12_producer 8 = .ok (.iconst 1, 1) := by decide +kernel
theorem dX12_producer_9 : decode cX12_producer 9 = .ok (.goto 4, 3) := by decide +kernel
theorem dX12_producer_12 : decode cX12_producer 12 = .ok (.iconst 0, 1) := by decide +kernel
theorem dX12_producer_13 : decode cX12_producer 13 = .ok (.putfield 145, 3) := by decide +kernel
theorem dX12_producer_16 : decode cX12_producer 16 = .ok (.aload_n 0, 1) := by decide +kernel
theorem dX12_producer_17 : decode cX12_producer 17 = .ok (.getfield 145, 3) := by decide +kernel
theorem dX12_producer_20 : decode cX12_producer 20 = .ok (.ifCond .le 5, 3) := by decide +kernel
theorem dX12_producer_23 : decode cX12_producer 23 = .ok (.lconst 0, 1) := by decide +kernel
theorem dX12_producer_24 : decode cX12_producer 24 = .ok (.lreturn, 1) := by decide +kernel
theorem dX12_producer_25 : decode cX12_producer 25 = .ok (.aload_n 0, 1) := by decide +kernel
theorem dX12_producer_26 : decode cX12_producer 26 = .ok (.getfield 351, 3) := by decide +kernel
theorem dX12_producer_29 : decode cX12_producer 29 = .ok (.aload_n 0, 1) := by decide +kernel
theorem dX12_producer_30 : decode cX12_producer 30 = .ok (.getfield 354, 3) := by decide +kernel
theorem dX12_producer_33 : decode cX12_producer 33 = .ok (.lcmp, 1) := by decide +kernel
theorem dX12_producer_34 : decode cX12_producer 34 = .ok (.ifCond .ne 38, 3) := by decide +kernel
theorem dX12_producer_37 : decode cX12_producer 37 = .ok (.aload_n 0, 1) := by decide +kernel
theorem dX12_producer_38 : decode cX12_producer 38 = .ok (.dup, 1) := by decide +kernel
theorem dX12_producer_39 : decode cX12_producer 39 = .ok (.getfield 354, 3) := by decide +kernel
theorem dX12_producer_42 : decode cX12_producer 42 = .ok (.aload_n 0, 1) := by decide +kernel
theorem dX12_producer_43 : decode cX12_producer 43 = .ok (.iconst 1, 1) := by decide +kernel
theorem dX12_producer_44 : decode cX12_producer 44 = .ok (.invokevirtual 311, 3) := by decide +kernel
theorem dX12_producer_47 : decode cX12_producer 47 = .ok (.ifCond .eq 9, 3) := by decide +kernel
theorem dX12_producer_50 : decode cX12_producer 50 = .ok (.ldc2_w 357, 3) := by decide +kernel
theorem dX12_producer_53 : decode cX12_producer 53 = .ok (.goto 4, 3) := by decide +kernel
theorem dX12_producer_56 : decode cX12_producer 56 = .ok (.lconst 0, 1) := by decide +kernel
theorem dX12_producer_57 : decode cX12_producer 57 = .ok (.ladd, 1) := by decide +kernel
theorem dX12_producer_58 : decode cX12_producer 58 = .ok (.putfield 354, 3) := by decide +kernel
theorem dX12_producer_61 : decode cX12_producer 61 = .ok (.aload_n 0, 1) := by decide +kernel
theorem dX12_producer_62 : decode cX12_producer 62 = .ok (.getfield 286, 3) := by decide +kernel
theorem dX12_producer_65 : decode cX12_producer 65 = .ok (.ifCond .eq 7, 3) := by decide +kernel
theorem dX12_producer_68 : decode cX12_producer 68 = .ok (.ldc2_w 359, 3) := by decide +kernel
theorem dX12_producer_71 : decode cX12_producer 71 = .ok (.lreturn, 1) := by decide +kernel
theorem dX12_producer_72 : decode cX12_producer 72 = .ok (.aload_n 0, 1) := by decide +kernel
theorem dX12_producer_73 : decode cX12_producer 73 = .ok (.dup, 1) := by decide +kernel
theorem dX12_producer_74 : decode cX12_producer 74 = .ok (.getfield 351, 3) := by decide +kernel
theorem dX12_producer_77 : decode cX12_producer 77 = .ok (.lconst 1, 1) := by decide +kernel
theorem dX12_producer_78 : decode cX12_producer 78 = .ok (.ladd, 1) := by decide +kernel
theorem dX12_producer_79 : decode cX12_producer 79 = .ok (.putfield 351, 3) := by decide +kernel
theorem dX12_producer_82 : decode cX12_producer 82 = .ok (.aload_n 0, 1) := by decide +kernel
theorem dX12_producer_83 : decode cX12_producer 83 = .ok (.getfield 351, 3) := by decide +kernel
theorem dX12_producer_86 : decode cX12_producer 86 = .ok (.lconst 1, 1) := by decide +kernel
theorem dX12_producer_87 : decode cX12_producer 87 = .ok (.lsub, 1) := by decide +kernel
theorem dX12_producer_88 : decode cX12_producer 88 = .ok (.lreturn, 1) := by decide +kernel
theorem dX12_produce_0 : decode cX12_produce 0 = .ok (.aload_n 0, 1) := by decide +kernel
theorem dX12_produce_1 : decode cX12_produce 1 = .ok (.iload_n 1, 1) := by decide +kernel
theorem dX12_produce_2 : decode cX12_produce 2 = .ok (.ifCond .lt 15, 3) := by decide +kernel
theorem dX12_produce_5 : decode cX12_produce 5 = .ok (.iload_n 1, 1) := by decide +kernel
theorem dX12_produce_6 : decode cX12_produce 6 = .ok (.aload_n 0, 1) := by decide +kernel
theorem dX12_produce_7 : decode cX12_produce 7 = .ok (.getfield 136, 3) := by decide +kernel
theorem dX12_produce_10 : decode cX12_produce 10 = .ok (.if_icmp .ge 7, 3) := by decide +kernel
theorem dX12_produce_13 : decode cX12_produce 13 = .ok (.iconst 1, 1) := by decide +kernel
theorem dX12_produce_14 : decode cX12_produce 14 = .ok (.goto 4, 3) := by decide +kernel
theorem dX12_produce_17 : decode cX12_produce 17 = .ok (.iconst 0, 1) := by decide +kernel
theorem dX12_produce_18 : decode cX12_produce 18 = .ok (.invokevirtual 361, 3) := by decide +kernel
theorem dX12_produce_21 : decode cX12_produce 21 = .ok (.ifCond .ne 5, 3) := by decide +kernel
theorem dX12_produce_24 : decode cX12_produce 24 = .ok (.lconst 0, 1) := by decide +kernel
theorem dX12_produce_25 : decode cX12_produce 25 = .ok (.lreturn, 1) := by decide +kernel
theorem dX12_produce_26 : decode cX12_produce 26 = .ok (.aload_n 0, 1) := by decide +kernel
theorem dX12_produce_27 : decode cX12_produce 27 = .ok (.invokevirtual 283, 3) := by decide +kernel
theorem dX12_produce_30 : decode cX12_produce 30 = .ok (.aload_n 0, 1) := by decide +kernel
theorem dX12_produce_31 : decode cX12_produce 31 = .ok (.getfield 148, 3) := by decide +kernel
theorem dX12_produce_34 : decode cX12_produce 34 = .ok (.istore_n 2, 1) := by decide +kernel
theorem dX12_produce_35 : decode cX12_produce 35 = .ok (.aload_n 0, 1) := by decide +kernel
theorem dX12_produce_36 : decode cX12_produce 36 = .ok (.iconst 0, 1) := by decide +kernel
theorem dX12_produce_37 : decode cX12_produce 37 = .ok (.putfield 148, 3) := by decide +kernel
theorem dX12_produce_40 : decode cX12_produce 40 = .ok (.aload_n 0, 1) := by decide +kernel
theorem dX12_produce_41 : decode cX12_produce 41 = .ok (.getfield 251, 3) := by decide +kernel
theorem dX12_produce_44 : decode cX12_produce 44 = .ok (.ifCond .le 7, 3) := by decide +kernel
theorem dX12_produce_47 : decode cX12_produce 47 = .ok (.ldc2_w 365, 3) := by decide +kernel
theorem dX12_produce_50 : decode cX12_produce 50 = .ok (.lreturn, 1) := by decide +kernel
theorem dX12_produce_51 : decode cX12_produce 51 = .ok (.iload_n 2, 1) := by decide +kernel
theorem dX12_produce_52 : decode cX12_produce 52 = .ok (.sipush 1024, 3) := by decide +kernel
theorem dX12_produce_55 : decode cX12_produce 55 = .ok (.aload_n 0, 1) := by decide +kernel
theorem dX12_produce_56 : decode cX12_produce 56 = .ok (.getfield 139, 3) := by decide +kernel
theorem dX12_produce_59 : decode cX12_produce 59 = .ok (.imul, 1) := by decide +kernel
theorem dX12_produce_60 : decode cX12_produce 60 = .ok (.if_icmp .le 7, 3) := by decide +kernel
theorem dX12_produce_63 : decode cX12_produce 63 = .ok (.ldc2_w 367, 3) := by decide +kernel
theorem dX12_produce_66 : decode cX12_produce 66 = .ok (.lreturn, 1) := by decide +kernel
theorem dX12_produce_67 : decode cX12_produce 67 = .ok (.aload_n 0, 1) := by decide +kernel
theorem dX12_produce_68 : decode cX12_produce 68 = .ok (.iload_n 2, 1) := by decide +kernel
theorem dX12_produce_69 : decode cX12_produce 69 = .ok (.putfield 148, 3) := by decide +kernel
theorem dX12_produce_72 : decode cX12_produce 72 = .ok (.aload_n 0, 1) := by decide +kernel
theorem dX12_produce_73 : decode cX12_produce 73 = .ok (.iload_n 1, 1) := by decide +kernel
theorem dX12_produce_74 : decode cX12_produce 74 = .ok (.invokevirtual 369, 3) := by decide +kernel
theorem dX12_produce_77 : decode cX12_produce 77 = .ok (.lstore_n 3, 1) := by decide +kernel
theorem dX12_produce_78 : decode cX12_produce 78 = .ok (.aload_n 0, 1) := by decide +kernel
theorem dX12_produce_79 : decode cX12_produce 79 = .ok (.iconst 0, 1) := by decide +kernel
theorem dX12_produce_80 : decode cX12_produce 80 = .ok (.putfield 148, 3) := by decide +kernel
theorem dX12_produce_83 : decode cX12_produce 83 = .ok (.lload_n 3, 1) := by decide +kernel
theorem dX12_produce_84 : decode cX12_produce 84 = .ok (.ldc2_w 205, 3) := by decide +kernel
theorem dX12_produce_87 : decode cX12_produce 87 = .ok (.lcmp, 1) := by decide +kernel
theorem dX12_produce_88 : decode cX12_produce 88 = .ok (.ifCond .eq 5, 3) := by decide +kernel
theorem dX12_produce_91 : decode cX12_produce 91 = .ok (.lload_n 3, 1) := by decide +kernel
theorem dX12_produce_92 : decode cX12_produce 92 = .ok (.lreturn, 1) := by decide +kernel
theorem dX12_produce_93 : decode cX12_produce 93 = .ok (.aload_n 0, 1) := by decide +kernel
theorem dX12_produce_94 : decode cX12_produce 94 = .ok (.getfield 55, 3) := by decide +kernel
theorem dX12_produce_97 : decode cX12_produce 97 = .ok (.iload_n 1, 1) := by decide +kernel
theorem dX12_produce_98 : decode cX12_produce 98 = .ok (.laload, 1) := by decide +kernel
theorem dX12_produce_99 : decode cX12_produce 99 = .ok (.lstore 5, 2) := by decide +kernel
theorem dX12_produce_101 : decode cX12_produce 101 = .ok (.aload_n 0, 1) := by decide +kernel
theorem dX12_produce_102 : decode cX12_produce 102 = .ok (.iload_n 1, 1) := by decide +kernel
theorem dX12_produce_103 : decode cX12_produce 103 = .ok (.aload_n 0, 1) := by decide +kernel
theorem dX12_produce_104 : decode cX12_produce 104 = .ok (.getfield 13, 3) := by decide +kernel
theorem dX12_produce_107 : decode cX12_produce 107 = .ok (.iload_n 2, 1) := by decide +kernel
theorem dX12_produce_108 : decode cX12_produce 108 = .ok (.invokevirtual 372, 3) := by decide +kernel
theorem dX12_produce_111 : decode cX12_produce 111 = .ok (.istore 7, 2) := by decide +kernel
theorem dX12_produce_113 : decode cX12_produce 113 = .ok (.iload 7, 2) := by decide +kernel
theorem dX12_produce_115 : decode cX12_produce 115 = .ok (.ifCond .ge 9, 3) := by decide +kernel
theorem dX12_produce_118 : decode cX12_produce 118 = .ok (.iload 7, 2) := by decide +kernel
theorem dX12_produce_120 : decode cX12_produce 120 = .ok (.i2l, 1) := by decide +kernel
theorem dX12_produce_121 : decode cX12_produce 121 = .ok (.goto 5, 3) := by decide +kernel
theorem dX12_produce_124 : decode cX12_produce 124 = .ok (.lload 5, 2) := by decide +kernel
theorem dX12_produce_126 : decode cX12_produce 126 = .ok (.lreturn, 1) := by decide +kernel
theorem dX12_known_0 : decode cX12_known 0 = .ok (.aload_n 0, 1) := by decide +kernel
theorem dX12_known_1 : decode cX12_known 1 = .ok (.iload_n 1, 1) := by decide +kernel
theorem dX12_known_2 : decode cX12_known 2 = .ok (.ifCond .lt 32, 3) := by decide +kernel
theorem dX12_known_5 : decode cX12_known 5 = .ok (.iload_n 1, 1) := by decide +kernel
theorem dX12_known_6 : decode cX12_known 6 = .ok (.aload_n 0, 1) := by decide +kernel
theorem dX12_known_7 : decode cX12_known 7 = .ok (.getfield 136, 3) := by decide +kernel
theorem dX12_known_10 : decode cX12_known 10 = .ok (.if_icmp .gt 24, 3) := by decide +kernel
theorem dX12_known_13 : decode cX12_known 13 = .ok (.lload_n 2, 1) := by decide +kernel
theorem dX12_known_14 : decode cX12_known 14 = .ok (.lconst 0, 1) := by decide +kernel
theorem dX12_known_15 : decode cX12_known 15 = .ok (.lcmp, 1) := by decide +kernel
theorem dX12_known_16 : decode cX12_known 16 = .ok (.ifCond .lt 18, 3) := by decide +kernel
theorem dX12_known_19 : decode cX12_known 19 = .ok (.iload 4, 2) := by decide +kernel
theorem dX12_known_21 : decode cX12_known 21 = .ok (.ifCond .lt 13, 3) := by decide +kernel
theorem dX12_known_24 : decode cX12_known 24 = .ok (.iload 4, 2) := by decide +kernel
theorem dX12_known_26 : decode cX12_known 26 = .ok (.iconst 3, 1) := by decide +kernel
theorem dX12_known_27 : decode cX12_known 27 = .ok (.if_icmp .gt 7, 3) := by decide +kernel
theorem dX12_known_30 : decode cX12_known 30 = .ok (.iconst 1, 1) := by decide +kernel
theorem dX12_known_31 : decode cX12_known 31 = .ok (.goto 4, 3) := by decide +kernel
theorem dX12_known_34 : decode cX12_known 34 = .ok (.iconst 0, 1) := by decide +kernel
theorem dX12_known_35 : decode cX12_known 35 = .ok (.invokevirtual 361, 3) := by decide +kernel
theorem dX12_known_38 : decode cX12_known 38 = .ok (.ifCond .ne 5, 3) := by decide +kernel
theorem dX12_known_41 : decode cX12_known 41 = .ok (.lconst 0, 1) := by decide +kernel
theorem dX12_known_42 : decode cX12_known 42 = .ok (.lreturn, 1) := by decide +kernel
theorem dX12_known_43 : decode cX12_known 43 = .ok (.iconst 0, 1) := by decide +kernel
theorem dX12_known_44 : decode cX12_known 44 = .ok (.istore 5, 2) := by decide +kernel
theorem dX12_known_46 : decode cX12_known 46 = .ok (.iload 5, 2) := by decide +kernel
theorem dX12_known_48 : decode cX12_known 48 = .ok (.iconst 5, 1) := by decide +kernel
theorem dX12_known_49 : decode cX12_known 49 = .ok (.if_icmp .ge 20, 3) := by decide +kernel
theorem dX12_known_52 : decode cX12_known 52 = .ok (.aload_n 0, 1) := by decide +kernel
theorem dX12_known_53 : decode cX12_known 53 = .ok (.iload_n 1, 1) := by decide +kernel
theorem dX12_known_54 : decode cX12_known 54 = .ok (.lload_n 2, 1) := by decide +kernel
theorem dX12_known_55 : decode cX12_known 55 = .ok (.iload 5, 2) := by decide +kernel
theorem dX12_known_57 : decode cX12_known 57 = .ok (.invokevirtual 328, 3) := by decide +kernel
theorem dX12_known_60 : decode cX12_known 60 = .ok (.ifCond .lt 9, 3) := by decide +kernel
theorem dX12_known_63 : decode cX12_known 63 = .ok (.iinc 5 1, 3) := by decide +kernel
theorem dX12_known_66 : decode cX12_known 66 = .ok (.goto (-20), 3) := by decide +kernel
theorem dX12_known_69 : decode cX12_known 69 = .ok (.aload_n 0, 1) := by decide +kernel
theorem dX12_known_70 : decode cX12_known 70 = .ok (.iload_n 1, 1) := by decide +kernel
theorem dX12_known_71 : decode cX12_known 71 = .ok (.lload_n 2, 1) := by decide +kernel
theorem dX12_known_72 : decode cX12_known 72 = .ok (.iconst 0, 1) := by decide +kernel
theorem dX12_known_73 : decode cX12_known 73 = .ok (.invokevirtual 328, 3) := by decide +kernel
theorem dX12_known_76 : decode cX12_known 76 = .ok (.istore 6, 2) := by decide +kernel
theorem dX12_known_78 : decode cX12_known 78 = .ok (.iload 4, 2) := by decide +kernel
theorem dX12_known_80 : decode cX12_known 80 = .ok (.ifCond .eq 8, 3) := by decide +kernel
theorem dX12_known_83 : decode cX12_known 83 = .ok (.iload 6, 2) := by decide +kernel
theorem dX12_known_85 : decode cX12_known 85 = .ok (.ifCond .ge 18, 3) := by decide +kernel
theorem dX12_known_88 : decode cX12_known 88 = .ok (.iload 4, 2) := by decide +kernel
theorem dX12_known_90 : decode cX12_known 90 = .ok (.ifCond .ne 9, 3) := by decide +kernel
theorem dX12_known_93 : decode cX12_known 93 = .ok (.iload 5, 2) := by decide +kernel
theorem dX12_known_95 : decode cX12_known 95 = .ok (.i2l, 1) := by decide +kernel
theorem dX12_known_96 : decode cX12_known 96 = .ok (.goto 6, 3) := by decide +kernel
theorem dX12_known_99 : decode cX12_known 99 = .ok (.ldc2_w 205, 3) := by decide +kernel
theorem dX12_known_102 : decode cX12_known 102 = .ok (.lreturn, 1) := by decide +kernel
theorem dX12_known_103 : decode cX12_known 103 = .ok (.iload 4, 2) := by decide +kernel
theorem dX12_known_105 : decode cX12_known 105 = .ok (.iconst 1, 1) := by decide +kernel
theorem dX12_known_106 : decode cX12_known 106 = .ok (.if_icmp .ne 13, 3) := by decide +kernel
theorem dX12_known_109 : decode cX12_known 109 = .ok (.aload_n 0, 1) := by decide +kernel
theorem dX12_known_110 : decode cX12_known 110 = .ok (.iload 6, 2) := by decide +kernel
theorem dX12_known_112 : decode cX12_known 112 = .ok (.invokevirtual 332, 3) := by decide +kernel
theorem dX12_known_115 : decode cX12_known 115 = .ok (.i2l, 1) := by decide +kernel
theorem dX12_known_116 : decode cX12_known 116 = .ok (.goto 34, 3) := by decide +kernel
theorem dX12_known_119 : decode cX12_known 119 = .ok (.iload 4, 2) := by decide +kernel
theorem dX12_known_121 : decode cX12_known 121 = .ok (.iconst 2, 1) := by decide +kernel
theorem dX12_known_122 : decode cX12_known 122 = .ok (.if_icmp .ne 22, 3) := by decide +kernel
theorem dX12_known_125 : decode cX12_known 125 = .ok (.aload_n 0, 1) := by decide +kernel
theorem dX12_known_126 : decode cX12_known 126 = .ok (.iload 6, 2) := by decide +kernel
theorem dX12_known_128 : decode cX12_known 128 = .ok (.invokevirtual 337, 3) := by decide +kernel
theorem dX12_known_131 : decode cX12_known 131 = .ok (.aload_n 0, 1) := by decide +kernel
theorem dX12_known_132 : decode cX12_known 132 = .ok (.iload 6, 2) := by decide +kernel
theorem dX12_known_134 : decode cX12_known 134 = .ok (.invokevirtual 340, 3) := by decide +kernel
theorem dX12_known_137 : decode cX12_known 137 = .ok (.invokestatic 346, 3) := by decide +kernel
theorem dX12_known_140 : decode cX12_known 140 = .ok (.i2l, 1) := by decide +kernel
theorem dX12_known_141 : decode cX12_known 141 = .ok (.goto 9, 3) := by decide +kernel
theorem dX12_known_144 : decode cX12_known 144 = .ok (.aload_n 0, 1) := by decide +kernel
theorem dX12_known_145 : decode cX12_known 145 = .ok (.iload 6, 2) := by decide +kernel
theorem dX12_known_147 : decode cX12_known 147 = .ok (.invokevirtual 343, 3) := by decide +kernel
theorem dX12_known_150 : decode cX12_known 150 = .ok (.lreturn, 1) := by decide +kernel
theorem dX12_log_0 : decode cX12_log 0 = .ok (.aload_n 0, 1) := by decide +kernel
theorem dX12_log_1 : decode cX12_log 1 = .ok (.iload_n 1, 1) := by decide +kernel
theorem dX12_log_2 : decode cX12_log 2 = .ok (.ifCond .lt 24, 3) := by decide +kernel
theorem dX12_log_5 : decode cX12_log 5 = .ok (.iload_n 1, 1) := by decide +kernel
theorem dX12_log_6 : decode cX12_log 6 = .ok (.aload_n 0, 1) := by decide +kernel
theorem dX12_log_7 : decode cX12_log 7 = .ok (.getfield 136, 3) := by decide +kernel
theorem dX12_log_10 : decode cX12_log 10 = .ok (.if_icmp .gt 16, 3) := by decide +kernel
theorem dX12_log_13 : decode cX12_log 13 = .ok (.iload_n 2, 1) := by decide +kernel
theorem dX12_log_14 : decode cX12_log 14 = .ok (.ifCond .lt 12, 3) := by decide +kernel
theorem dX12_log_17 : decode cX12_log 17 = .ok (.iload_n 2, 1) := by decide +kernel
theorem dX12_log_18 : decode cX12_log 18 = .ok (.iconst 5, 1) := by decide +kernel
theorem dX12_log_19 : decode cX12_log 19 = .ok (.if_icmp .gt 7, 3) := by decide +kernel
theorem dX12_log_22 : decode cX12_log 22 = .ok (.iconst 1, 1) := by decide +kernel
theorem dX12_log_23 : decode cX12_log 23 = .ok (.goto 4, 3) := by decide +kernel
theorem dX12_log_26 : decode cX12_log 26 = .ok (.iconst 0, 1) := by decide +kernel
theorem dX12_log_27 : decode cX12_log 27 = .ok (.invokevirtual 361, 3) := by decide +kernel
theorem dX12_log_30 : decode cX12_log 30 = .ok (.ifCond .ne 5, 3) := by decide +kernel
theorem dX12_log_33 : decode cX12_log 33 = .ok (.lconst 0, 1) := by decide +kernel
theorem dX12_log_34 : decode cX12_log 34 = .ok (.lreturn, 1) := by decide +kernel
theorem dX12_log_35 : decode cX12_log 35 = .ok (.iload_n 2, 1) := by decide +kernel
theorem dX12_log_36 : decode cX12_log 36 = .ok (.iconst 3, 1) := by decide +kernel
theorem dX12_log_37 : decode cX12_log 37 = .ok (.if_icmp .ge 38, 3) := by decide +kernel
theorem dX12_log_40 : decode cX12_log 40 = .ok (.iload_n 2, 1) := by decide +kernel
theorem dX12_log_41 : decode cX12_log 41 = .ok (.ifCond .ne 12, 3) := by decide +kernel
theorem dX12_log_44 : decode cX12_log 44 = .ok (.aload_n 0, 1) := by decide +kernel
theorem dX12_log_45 : decode cX12_log 45 = .ok (.getfield 52, 3) := by decide +kernel
theorem dX12_log_48 : decode cX12_log 48 = .ok (.iload_n 1, 1) := by decide +kernel
theorem dX12_log_49 : decode cX12_log 49 = .ok (.laload, 1) := by decide +kernel
theorem dX12_log_50 : decode cX12_log 50 = .ok (.goto 24, 3) := by decide +kernel
theorem dX12_log_53 : decode cX12_log 53 = .ok (.iload_n 2, 1) := by decide +kernel
theorem dX12_log_54 : decode cX12_log 54 = .ok (.iconst 1, 1) := by decide +kernel
theorem dX12_log_55 : decode cX12_log 55 = .ok (.if_icmp .ne 12, 3) := by decide +kernel
theorem dX12_log_58 : decode cX12_log 58 = .ok (.aload_n 0, 1) := by decide +kernel
theorem dX12_log_59 : decode cX12_log 59 = .ok (.getfield 55, 3) := by decide +kernel
theorem dX12_log_62 : decode cX12_log 62 = .ok (.iload_n 1, 1) := by decide +kernel
theorem dX12_log_63 : decode cX12_log 63 = .ok (.laload, 1) := by decide +kernel
theorem dX12_log_64 : decode cX12_log 64 = .ok (.goto 10, 3) := by decide +kernel
theorem dX12_log_67 : decode cX12_log 67 = .ok (.aload_n 0, 1) := by decide +kernel
theorem dX12_log_68 : decode cX12_log 68 = .ok (.getfield 58, 3) := by decide +kernel
theorem dX12_log_71 : decode cX12_log 71 = .ok (.iload_n 1, 1) := by decide +kernel
theorem dX12_log_72 : decode cX12_log 72 = .ok (.iaload, 1) := by decide +kernel
theorem dX12_log_73 : decode cX12_log 73 = .ok (.i2l, 1) := by decide +kernel
theorem dX12_log_74 : decode cX12_log 74 = .ok (.lreturn, 1) := by decide +kernel
theorem dX12_log_75 : decode cX12_log 75 = .ok (.lconst 0, 1) := by decide +kernel
theorem dX12_log_76 : decode cX12_log 76 = .ok (.lstore_n 3, 1) := by decide +kernel
theorem dX12_log_77 : decode cX12_log 77 = .ok (.iconst 0, 1) := by decide +kernel
theorem dX12_log_78 : decode cX12_log 78 = .ok (.istore 5, 2) := by decide +kernel
theorem dX12_log_80 : decode cX12_log 80 = .ok (.iload 5, 2) := by decide +kernel
theorem dX12_log_82 : decode cX12_log 82 = .ok (.aload_n 0, 1) := by decide +kernel
theorem dX12_log_83 : decode cX12_log 83 = .ok (.getfield 295, 3) := by decide +kernel
theorem dX12_log_86 : decode cX12_log 86 = .ok (.if_icmp .ge 59, 3) := by decide +kernel
theorem dX12_log_89 : decode cX12_log 89 = .ok (.lload_n 3, 1) := by decide +kernel
theorem dX12_log_90 : decode cX12_log 90 = .ok (.aload_n 0, 1) := by decide +kernel
theorem dX12_log_91 : decode cX12_log 91 = .ok (.getfield 33, 3) := by decide +kernel
theorem dX12_log_94 : decode cX12_log 94 = .ok (.iload 5, 2) := by decide +kernel
theorem dX12_log_96 : decode cX12_log 96 = .ok (.iaload, 1) := by decide +kernel
theorem dX12_log_97 : decode cX12_log 97 = .ok (.iload_n 1, 1) := by decide +kernel
theorem dX12_log_98 : decode cX12_log 98 = .ok (.if_icmp .eq 7, 3) := by decide +kernel
theorem dX12_log_101 : decode cX12_log 101 = .ok (.lconst 0, 1) := by decide +kernel
theorem dX12_log_102 : decode cX12_log 102 = .ok (.goto 35, 3) := by decide +kernel
theorem dX12_log_105 : decode cX12_log 105 = .ok (.iload_n 2, 1) := by decide +kernel
theorem dX12_log_106 : decode cX12_log 106 = .ok (.iconst 3, 1) := by decide +kernel
theorem dX12_log_107 : decode cX12_log 107 = .ok (.if_icmp .ne 7, 3) := by decide +kernel
theorem dX12_log_110 : decode cX12_log 110 = .ok (.lconst 1, 1) := by decide +kernel
theorem dX12_log_111 : decode cX12_log 111 = .ok (.goto 26, 3) := by decide +kernel
theorem dX12_log_114 : decode cX12_log 114 = .ok (.iload_n 2, 1) := by decide +kernel
theorem dX12_log_115 : decode cX12_log 115 = .ok (.iconst 4, 1) := by decide +kernel
theorem dX12_log_116 : decode cX12_log 116 = .ok (.if_icmp .ne 13, 3) := by decide +kernel
theorem dX12_log_119 : decode cX12_log 119 = .ok (.aload_n 0, 1) := by decide +kernel
theorem dX12_log_120 : decode cX12_log 120 = .ok (.iload 5, 2) := by decide +kernel
theorem dX12_log_122 : decode cX12_log 122 = .ok (.invokevirtual 319, 3) := by decide +kernel
theorem dX12_log_125 : decode cX12_log 125 = .ok (.i2l, 1) := by decide +kernel
theorem dX12_log_126 : decode cX12_log 126 = .ok (.goto 11, 3) := by decide +kernel
theorem dX12_log_129 : decode cX12_log 129 = .ok (.aload_n 0, 1) := by decide +kernel
theorem dX12_log_130 : decode cX12_log 130 = .ok (.getfield 39, 3) := by decide +kernel
theorem dX12_log_133 : decode cX12_log 133 = .ok (.iload 5, 2) := by decide +kernel
theorem dX12_log_135 : decode cX12_log 135 = .ok (.iaload, 1) := by decide +kernel
theorem dX12_log_136 : decode cX12_log 136 = .ok (.i2l, 1) := by decide +kernel
theorem dX12_log_137 : decode cX12_log 137 = .ok (.ladd, 1) := by decide +kernel
theorem dX12_log_138 : decode cX12_log 138 = .ok (.lstore_n 3, 1) := by decide +kernel
theorem dX12_log_139 : decode cX12_log 139 = .ok (.iinc 5 1, 3) := by decide +kernel
theorem dX12_log_142 : decode cX12_log 142 = .ok (.goto (-62), 3) := by decide +kernel
theorem dX12_log_145 : decode cX12_log 145 = .ok (.lload_n 3, 1) := by decide +kernel
theorem dX12_log_146 : decode cX12_log 146 = .ok (.lreturn, 1) := by decide +kernel
theorem dX12_lastOffset_0 : decode cX12_lastOffset 0 = .ok (.aload_n 0, 1) := by decide +kernel
theorem dX12_lastOffset_1 : decode cX12_lastOffset 1 = .ok (.iload_n 1, 1) := by decide +kernel
theorem dX12_lastOffset_2 : decode cX12_lastOffset 2 = .ok (.invokevirtual 343, 3) := by decide +kernel
theorem dX12_lastOffset_5 : decode cX12_lastOffset 5 = .ok (.aload_n 0, 1) := by decide +kernel
theorem dX12_lastOffset_6 : decode cX12_lastOffset 6 = .ok (.iload_n 1, 1) := by decide +kernel
theorem dX12_lastOffset_7 : decode cX12_lastOffset 7 = .ok (.invokevirtual 340, 3) := by decide +kernel
theorem dX12_lastOffset_10 : decode cX12_lastOffset 10 = .ok (.i2l, 1) := by decide +kernel
theorem dX12_lastOffset_11 : decode cX12_lastOffset 11 = .ok (.ladd, 1) := by decide +kernel
theorem dX12_lastOffset_12 : decode cX12_lastOffset 12 = .ok (.lstore_n 2, 1) := by decide +kernel
theorem dX12_lastOffset_13 : decode cX12_lastOffset 13 = .ok (.aload_n 0, 1) := by decide +kernel
theorem dX12_lastOffset_14 : decode cX12_lastOffset 14 = .ok (.iload_n 1, 1) := by decide +kernel
theorem dX12_lastOffset_15 : decode cX12_lastOffset 15 = .ok (.invokevirtual 376, 3) := by decide +kernel
theorem dX12_lastOffset_18 : decode cX12_lastOffset 18 = .ok (.iconst 0, 1) := by decide +kernel
theorem dX12_lastOffset_19 : decode cX12_lastOffset 19 = .ok (.istore 4, 2) := by decide +kernel
theorem dX12_lastOffset_21 : decode cX12_lastOffset 21 = .ok (.iload 4, 2) := by decide +kernel
theorem dX12_lastOffset_23 : decode cX12_lastOffset 23 = .ok (.aload_n 0, 1) := by decide +kernel
theorem dX12_lastOffset_24 : decode cX12_lastOffset 24 = .ok (.iload_n 1, 1) := by decide +kernel
theorem dX12_lastOffset_25 : decode cX12_lastOffset 25 = .ok (.invokevirtual 319, 3) := by decide +kernel
theorem dX12_lastOffset_28 : decode cX12_lastOffset 28 = .ok (.if_icmp .ge 31, 3) := by decide +kernel
theorem dX12_lastOffset_31 : decode cX12_lastOffset 31 = .ok (.aload_n 0, 1) := by decide +kernel
theorem dX12_lastOffset_32 : decode cX12_lastOffset 32 = .ok (.aload_n 0, 1) := by decide +kernel
theorem dX12_lastOffset_33 : decode cX12_lastOffset 33 = .ok (.iload_n 1, 1) := by decide +kernel
theorem dX12_lastOffset_34 : decode cX12_lastOffset 34 = .ok (.invokevirtual 379, 3) := by decide +kernel
theorem dX12_lastOffset_37 : decode cX12_lastOffset 37 = .ok (.invokevirtual 279, 3) := by decide +kernel
theorem dX12_lastOffset_40 : decode cX12_lastOffset 40 = .ok (.istore 5, 2) := by decide +kernel
theorem dX12_lastOffset_42 : decode cX12_lastOffset 42 = .ok (.aload_n 0, 1) := by decide +kernel
theorem dX12_lastOffset_43 : decode cX12_lastOffset 43 = .ok (.iload_n 1, 1) := by decide +kernel
theorem dX12_lastOffset_44 : decode cX12_lastOffset 44 = .ok (.invokevirtual 343, 3) := by decide +kernel
theorem dX12_lastOffset_47 : decode cX12_lastOffset 47 = .ok (.aload_n 0, 1) := by decide +kernel
theorem dX12_lastOffset_48 : decode cX12_lastOffset 48 = .ok (.getfield 233, 3) := by decide +kernel
theorem dX12_lastOffset_51 : decode cX12_lastOffset 51 = .ok (.ladd, 1) := by decide +kernel
theorem dX12_lastOffset_52 : decode cX12_lastOffset 52 = .ok (.lstore_n 2, 1) := by decide +kernel
theorem dX12_lastOffset_53 : decode cX12_lastOffset 53 = .ok (.iinc 4 1, 3) := by decide +kernel
theorem dX12_lastOffset_56 : decode cX12_lastOffset 56 = .ok (.goto (-35), 3) := by decide +kernel
theorem dX12_lastOffset_59 : decode cX12_lastOffset 59 = .ok (.lload_n 2, 1) := by decide +kernel
theorem dX12_lastOffset_60 : decode cX12_lastOffset 60 = .ok (.lreturn, 1) := by decide +kernel
theorem dX12_fetch_0 : decode cX12_fetch 0 = .ok (.aload_n 0, 1) := by decide +kernel
theorem dX12_fetch_1 : decode cX12_fetch 1 = .ok (.iload_n 1, 1) := by decide +kernel
theorem dX12_fetch_2 : decode cX12_fetch 2 = .ok (.ifCond .lt 27, 3) := by decide +kernel
theorem dX12_fetch_5 : decode cX12_fetch 5 = .ok (.iload_n 1, 1) := by decide +kernel
theorem dX12_fetch_6 : decode cX12_fetch 6 = .ok (.aload_n 0, 1) := by decide +kernel
theorem dX12_fetch_7 : decode cX12_fetch 7 = .ok (.getfield 136, 3) := by decide +kernel
theorem dX12_fetch_10 : decode cX12_fetch 10 = .ok (.if_icmp .gt 19, 3) := by decide +kernel
theorem dX12_fetch_13 : decode cX12_fetch 13 = .ok (.iload 4, 2) := by decide +kernel
theorem dX12_fetch_15 : decode cX12_fetch 15 = .ok (.ifCond .lt 14, 3) := by decide +kernel
theorem dX12_fetch_18 : decode cX12_fetch 18 = .ok (.iload 4, 2) := by decide +kernel
theorem dX12_fetch_20 : decode cX12_fetch 20 = .ok (.ldc 71, 2) := by decide +kernel
theorem dX12_fetch_22 : decode cX12_fetch 22 = .ok (.if_icmp .gt 7, 3) := by decide +kernel
theorem dX12_fetch_25 : decode cX12_fetch 25 = .ok (.iconst 1, 1) := by decide +kernel
theorem dX12_fetch_26 : decode cX12_fetch 26 = .ok (.goto 4, 3) := by decide +kernel
theorem dX12_fetch_29 : decode cX12_fetch 29 = .ok (.iconst 0, 1) := by decide +kernel
theorem dX12_fetch_30 : decode cX12_fetch 30 = .ok (.invokevirtual 361, 3) := by decide +kernel
theorem dX12_fetch_33 : decode cX12_fetch 33 = .ok (.ifCond .ne 5, 3) := by decide +kernel
theorem dX12_fetch_36 : decode cX12_fetch 36 = .ok (.iconst 0, 1) := by decide +kernel
theorem dX12_fetch_37 : decode cX12_fetch 37 = .ok (.ireturn, 1) := by decide +kernel
theorem dX12_fetch_38 : decode cX12_fetch 38 = .ok (.lload_n 2, 1) := by decide +kernel
theorem dX12_fetch_39 : decode cX12_fetch 39 = .ok (.aload_n 0, 1) := by decide +kernel
theorem dX12_fetch_40 : decode cX12_fetch 40 = .ok (.getfield 52, 3) := by decide +kernel
theorem dX12_fetch_43 : decode cX12_fetch 43 = .ok (.iload_n 1, 1) := by decide +kernel
theorem dX12_fetch_44 : decode cX12_fetch 44 = .ok (.laload, 1) := by decide +kernel
theorem dX12_fetch_45 : decode cX12_fetch 45 = .ok (.lcmp, 1) := by decide +kernel
theorem dX12_fetch_46 : decode cX12_fetch 46 = .ok (.ifCond .lt 14, 3) := by decide +kernel
theorem dX12_fetch_49 : decode cX12_fetch 49 = .ok (.lload_n 2, 1) := by decide +kernel
theorem dX12_fetch_50 : decode cX12_fetch 50 = .ok (.aload_n 0, 1) := by decide +kernel
theorem dX12_fetch_51 : decode cX12_fetch 51 = .ok (.getfield 55, 3) := by decide +kernel
theorem dX12_fetch_54 : decode cX12_fetch 54 = .ok (.iload_n 1, 1) := by decide +kernel
theorem dX12_fetch_55 : decode cX12_fetch 55 = .ok (.laload, 1) := by decide +kernel
theorem dX12_fetch_56 : decode cX12_fetch 56 = .ok (.lcmp, 1) := by decide +kernel
theorem dX12_fetch_57 : decode cX12_fetch 57 = .ok (.ifCond .le 6, 3) := by decide +kernel
theorem dX12_fetch_60 : decode cX12_fetch 60 = .ok (.bipush (-12), 2) := by decide +kernel
theorem dX12_fetch_62 : decode cX12_fetch 62 = .ok (.ireturn, 1) := by decide +kernel
theorem dX12_fetch_63 : decode cX12_fetch 63 = .ok (.aload_n 0, 1) := by decide +kernel
theorem dX12_fetch_64 : decode cX12_fetch 64 = .ok (.iconst 0, 1) := by decide +kernel
theorem dX12_fetch_65 : decode cX12_fetch 65 = .ok (.putfield 382, 3) := by decide +kernel
theorem dX12_fetch_68 : decode cX12_fetch 68 = .ok (.iconst 0, 1) := by decide +kernel
theorem dX12_fetch_69 : decode cX12_fetch 69 = .ok (.istore 5, 2) := by decide +kernel
theorem dX12_fetch_71 : decode cX12_fetch 71 = .ok (.iconst 1, 1) := by decide +kernel
theorem dX12_fetch_72 : decode cX12_fetch 72 = .ok (.istore 6, 2) := by decide +kernel
theorem dX12_fetch_74 : decode cX12_fetch 74 = .ok (.iconst 0, 1) := by decide +kernel
theorem dX12_fetch_75 : decode cX12_fetch 75 = .ok (.istore 7, 2) := by decide +kernel
theorem dX12_fetch_77 : decode cX12_fetch 77 = .ok (.iload 7, 2) := by decide +kernel
theorem dX12_fetch_79 : decode cX12_fetch 79 = .ok (.aload_n 0, 1) := by decide +kernel
theorem dX12_fetch_80 : decode cX12_fetch 80 = .ok (.getfield 295, 3) := by decide +kernel
theorem dX12_fetch_83 : decode cX12_fetch 83 = .ok (.if_icmp .ge 149, 3) := by decide +kernel
theorem dX12_fetch_86 : decode cX12_fetch 86 = .ok (.iload 6, 2) := by decide +kernel
theorem dX12_fetch_88 : decode cX12_fetch 88 = .ok (.ifCond .eq 144, 3) := by decide +kernel
theorem dX12_fetch_91 : decode cX12_fetch 91 = .ok (.aload_n 0, 1) := by decide +kernel
theorem dX12_fetch_92 : decode cX12_fetch 92 = .ok (.getfield 33, 3) := by decide +kernel
theorem dX12_fetch_95 : decode cX12_fetch 95 = .ok (.iload 7, 2) := by decide +kernel
theorem dX12_fetch_97 : decode cX12_fetch 97 = .ok (.iaload, 1) := by decide +kernel
theorem dX12_fetch_98 : decode cX12_fetch 98 = .ok (.iload_n 1, 1) := by decide +kernel
theorem dX12_fetch_99 : decode cX12_fetch 99 = .ok (.if_icmp .ne 127, 3) := by decide +kernel
theorem dX12_fetch_102 : decode cX12_fetch 102 = .ok (.iload 5, 2) := by decide +kernel
theorem dX12_fetch_104 : decode cX12_fetch 104 = .ok (.ifCond .ne 14, 3) := by decide +kernel
theorem dX12_fetch_107 : decode cX12_fetch 107 = .ok (.aload_n 0, 1) := by decide +kernel
theorem dX12_fetch_108 : decode cX12_fetch 108 = .ok (.iload 7, 2) := by decide +kernel
theorem dX12_fetch_110 : decode cX12_fetch 110 = .ok (.invokevirtual 385, 3) := by decide +kernel
theorem dX12_fetch_113 : decode cX12_fetch 113 = .ok (.lload_n 2, 1) := by decide +kernel
theorem dX12_fetch_114 : decode cX12_fetch 114 = .ok (.lcmp, 1) := by decide +kernel
theorem dX12_fetch_115 : decode cX12_fetch 115 = .ok (.ifCond .lt 7, 3) := by decide +kernel
theorem dX12_fetch_118 : decode cX12_fetch 118 = .ok (.iconst 1, 1) := by decide +kernel
theorem dX12_fetch_119 : decode cX12_fetch 119 = .ok (.goto 4, 3) := by decide +kernel
theorem dX12_fetch_122 : decode cX12_fetch 122 = .ok (.iconst 0, 1) := by decide +kernel
theorem dX12_fetch_123 : decode cX12_fetch 123 = .ok (.istore 5, 2) := by decide +kernel
theorem dX12_fetch_125 : decode cX12_fetch 125 = .ok (.iload 5, 2) := by decide +kernel
theorem dX12_fetch_127 : decode cX12_fetch 127 = .ok (.ifCond .eq 27, 3) := by decide +kernel
theorem dX12_fetch_130 : decode cX12_fetch 130 = .ok (.aload_n 0, 1) := by decide +kernel
theorem dX12_fetch_131 : decode cX12_fetch 131 = .ok (.getfield 382, 3) := by decide +kernel
theorem dX12_fetch_134 : decode cX12_fetch 134 = .ok (.ifCond .eq 20, 3) := by decide +kernel
theorem dX12_fetch_137 : decode cX12_fetch 137 = .ok (.aload_n 0, 1) := by decide +kernel
theorem dX12_fetch_138 : decode cX12_fetch 138 = .ok (.getfield 382, 3) := by decide +kernel
theorem dX12_fetch_141 : decode cX12_fetch 141 = .ok (.aload_n 0, 1) := by decide +kernel
theorem dX12_fetch_142 : decode cX12_fetch 142 = .ok (.getfield 39, 3) := by decide +kernel
theorem dX12_fetch_145 : decode cX12_fetch 145 = .ok (.iload 7, 2) := by decide +kernel
theorem dX12_fetch_147 : decode cX12_fetch 147 = .ok (.iaload, 1) := by decide +kernel
theorem dX12_fetch_148 : decode cX12_fetch 148 = .ok (.iadd, 1) := by decide +kernel
theorem dX12_fetch_149 : decode cX12_fetch 149 = .ok (.iload 4, 2) := by decide +kernel
theorem dX12_fetch_151 : decode cX12_fetch 151 = .ok (.if_icmp .gt 7, 3) := by decide +kernel
theorem dX12_fetch_154 : decode cX12_fetch 154 = .ok (.iconst 1, 1) := by decide +kernel
theorem dX12_fetch_155 : decode cX12_fetch 155 = .ok (.goto 4, 3) := by decide +kernel
theorem dX12_fetch_158 : decode cX12_fetch 158 = .ok (.iconst 0, 1) := by decide +kernel
theorem dX12_fetch_159 : decode cX12_fetch 159 = .ok (.istore 6, 2) := by decide +kernel
theorem dX12_fetch_161 : decode cX12_fetch 161 = .ok (.iconst 0, 1) := by decide +kernel
theorem dX12_fetch_162 : decode cX12_fetch 162 = .ok (.istore 8, 2) := by decide +kernel
theorem dX12_fetch_164 : decode cX12_fetch 164 = .ok (.iload 8, 2) := by decide +kernel
theorem dX12_fetch_166 : decode cX12_fetch 166 = .ok (.aload_n 0, 1) := by decide +kernel
theorem dX12_fetch_167 : decode cX12_fetch 167 = .ok (.getfield 39, 3) := by decide +kernel
theorem dX12_fetch_170 : decode cX12_fetch 170 = .ok (.iload 7, 2) := by decide +kernel
theorem dX12_fetch_172 : decode cX12_fetch 172 = .ok (.iaload, 1) := by decide +kernel
theorem dX12_fetch_173 : decode cX12_fetch 173 = .ok (.if_icmp .ge 53, 3) := by decide +kernel
theorem dX12_fetch_176 : decode cX12_fetch 176 = .ok (.iload 5, 2) := by decide +kernel
theorem dX12_fetch_178 : decode cX12_fetch 178 = .ok (.ifCond .eq 48, 3) := by decide +kernel
theorem dX12_fetch_181 : decode cX12_fetch 181 = .ok (.iload 6, 2) := by decide +kernel
theorem dX12_fetch_183 : decode cX12_fetch 183 = .ok (.ifCond .eq 43, 3) := by decide +kernel
theorem dX12_fetch_186 : decode cX12_fetch 186 = .ok (.aload_n 0, 1) := by decide +kernel
theorem dX12_fetch_187 : decode cX12_fetch 187 = .ok (.getfield 72, 3) := by decide +kernel
theorem dX12_fetch_190 : decode cX12_fetch 190 = .ok (.aload_n 0, 1) := by decide +kernel
theorem dX12_fetch_191 : decode cX12_fetch 191 = .ok (.getfield 382, 3) := by decide +kernel
theorem dX12_fetch_194 : decode cX12_fetch 194 = .ok (.aload_n 0, 1) := by decide +kernel
theorem dX12_fetch_195 : decode cX12_fetch 195 = .ok (.getfield 46, 3) := by decide +kernel
theorem dX12_fetch_198 : decode cX12_fetch 198 = .ok (.aload_n 0, 1) := by decide +kernel
theorem dX12_fetch_199 : decode cX12_fetch 199 = .ok (.getfield 36, 3) := by decide +kernel
theorem dX12_fetch_202 : decode cX12_fetch 202 = .ok (.iload 7, 2) := by decide +kernel
theorem dX12_fetch_204 : decode cX12_fetch 204 = .ok (.iaload, 1) := by decide +kernel
theorem dX12_fetch_205 : decode cX12_fetch 205 = .ok (.iload 8, 2) := by decide +kernel
theorem dX12_fetch_207 : decode cX12_fetch 207 = .ok (.iadd, 1) := by decide +kernel
theorem dX12_fetch_208 : decode cX12_fetch 208 = .ok (.iaload, 1) := by decide +kernel
theorem dX12_fetch_209 : decode cX12_fetch 209 = .ok (.iastore, 1) := by decide +kernel
theorem dX12_fetch_210 : decode cX12_fetch 210 = .ok (.aload_n 0, 1) := by decide +kernel
theorem dX12_fetch_211 : decode cX12_fetch 211 = .ok (.dup, 1) := by decide +kernel
theorem dX12_fetch_212 : decode cX12_fetch 212 = .ok (.getfield 382, 3) := by decide +kernel
theorem dX12_fetch_215 : decode cX12_fetch 215 = .ok (.iconst 1, 1) := by decide +kernel
theorem dX12_fetch_216 : decode cX12_fetch 216 = .ok (.iadd, 1) := by decide +kernel
theorem dX12_fetch_217 : decode cX12_fetch 217 = .ok (.putfield 382, 3) := by decide +kernel
theorem dX12_fetch_220 : decode cX12_fetch 220 = .ok (.iinc 8 1, 3) := by decide +kernel
theorem dX12_fetch_223 : decode cX12_fetch 223 = .ok (.goto (-59), 3) := by decide +kernel
theorem dX12_fetch_226 : decode cX12_fetch 226 = .ok (.iinc 7 1, 3) := by decide +kernel
theorem dX12_fetch_229 : decode cX12_fetch 229 = .ok (.goto (-152), 3) := by decide +kernel
theorem dX12_fetch_232 : decode cX12_fetch 232 = .ok (.aload_n 0, 1) := by decide +kernel
theorem dX12_fetch_233 : decode cX12_fetch 233 = .ok (.getfield 382, 3) := by decide +kernel
theorem dX12_fetch_236 : decode cX12_fetch 236 = .ok (.ireturn, 1) := by decide +kernel
theorem dX12_byteAt_0 : decode cX12_byteAt 0 = .ok (.aload_n 0, 1) := by decide +kernel
theorem dX12_byteAt_1 : decode cX12_byteAt 1 = .ok (.iload_n 1, 1) := by decide +kernel
theorem dX12_byteAt_2 : decode cX12_byteAt 2 = .ok (.ifCond .lt 15, 3) := by decide +kernel
theorem dX12_byteAt_5 : decode cX12_byteAt 5 = .ok (.iload_n 1, 1) := by decide +kernel
theorem dX12_byteAt_6 : decode cX12_byteAt 6 = .ok (.aload_n 0, 1) := by decide +kernel
theorem dX12_byteAt_7 : decode cX12_byteAt 7 = .ok (.getfield 382, 3) := by decide +kernel
theorem dX12_byteAt_10 : decode cX12_byteAt 10 = .ok (.if_icmp .ge 7, 3) := by decide +kernel
theorem dX12_byteAt_13 : decode cX12_byteAt 13 = .ok (.iconst 0, 1) := by decide +kernel
theorem dX12_byteAt_14 : decode cX12_byteAt 14 = .ok (.goto 4, 3) := by decide +kernel
theorem dX12_byteAt_17 : decode cX12_byteAt 17 = .ok (.iconst 1, 1) := by decide +kernel
theorem dX12_byteAt_18 : decode cX12_byteAt 18 = .ok (.putfield 145, 3) := by decide +kernel
theorem dX12_byteAt_21 : decode cX12_byteAt 21 = .ok (.aload_n 0, 1) := by decide +kernel
theorem dX12_byteAt_22 : decode cX12_byteAt 22 = .ok (.getfield 145, 3) := by decide +kernel
theorem dX12_byteAt_25 : decode cX12_byteAt 25 = .ok (.ifCond .le 7, 3) := by decide +kernel
theorem dX12_byteAt_28 : decode cX12_byteAt 28 = .ok (.iconst 0, 1) := by decide +kernel
theorem dX12_byteAt_29 : decode cX12_byteAt 29 = .ok (.goto 9, 3) := by decide +kernel
theorem dX12_byteAt_32 : decode cX12_byteAt 32 = .ok (.aload_n 0, 1) := by decide +kernel
theorem dX12_byteAt_33 : decode cX12_byteAt 33 = .ok (.getfield 72, 3) := by decide +kernel
theorem dX12_byteAt_36 : decode cX12_byteAt 36 = .ok (.iload_n 1, 1) := by decide +kernel
theorem dX12_byteAt_37 : decode cX12_byteAt 37 = .ok (.iaload, 1) := by decide +kernel
theorem dX12_byteAt_38 : decode cX12_byteAt 38 = .ok (.ireturn, 1) := by decide +kernel
theorem dX12_seek_0 : decode cX12_seek 0 = .ok (.iconst 0, 1) := by decide +kernel
theorem dX12_seek_1 : decode cX12_seek 1 = .ok (.istore_n 2, 1) := by decide +kernel
theorem dX12_seek_2 : decode cX12_seek 2 = .ok (.iload_n 1, 1) := by decide +kernel
theorem dX12_seek_3 : decode cX12_seek 3 = .ok (.istore_n 3, 1) := by decide +kernel
theorem dX12_seek_4 : decode cX12_seek 4 = .ok (.iload_n 2, 1) := by decide +kernel
theorem dX12_seek_5 : decode cX12_seek 5 = .ok (.aload_n 0, 1) := by decide +kernel
theorem dX12_seek_6 : decode cX12_seek 6 = .ok (.getfield 382, 3) := by decide +kernel
theorem dX12_seek_9 : decode cX12_seek 9 = .ok (.if_icmp .ge 120, 3) := by decide +kernel
theorem dX12_seek_12 : decode cX12_seek 12 = .ok (.iload_n 1, 1) := by decide +kernel
theorem dX12_seek_13 : decode cX12_seek 13 = .ok (.ifCond .lt 116, 3) := by decide +kernel
theorem dX12_seek_16 : decode cX12_seek 16 = .ok (.aload_n 0, 1) := by decide +kernel
theorem dX12_seek_17 : decode cX12_seek 17 = .ok (.getfield 72, 3) := by decide +kernel
theorem dX12_seek_20 : decode cX12_seek 20 = .ok (.iload_n 2, 1) := by decide +kernel
theorem dX12_seek_21 : decode cX12_seek 21 = .ok (.bipush 8, 2) := by decide +kernel
theorem dX12_seek_23 : decode cX12_seek 23 = .ok (.iadd, 1) := by decide +kernel
theorem dX12_seek_24 : decode cX12_seek 24 = .ok (.iconst 4, 1) := by decide +kernel
theorem dX12_seek_25 : decode cX12_seek 25 = .ok (.invokestatic 257, 3) := by decide +kernel
theorem dX12_seek_28 : decode cX12_seek 28 = .ok (.l2i, 1) := by decide +kernel
theorem dX12_seek_29 : decode cX12_seek 29 = .ok (.bipush 12, 2) := by decide +kernel
theorem dX12_seek_31 : decode cX12_seek 31 = .ok (.iadd, 1) := by decide +kernel
theorem dX12_seek_32 : decode cX12_seek 32 = .ok (.istore 4, 2) := by decide +kernel
theorem dX12_seek_34 : decode cX12_seek 34 = .ok (.aload_n 0, 1) := by decide +kernel
theorem dX12_seek_35 : decode cX12_seek 35 = .ok (.getfield 72, 3) := by decide +kernel
theorem dX12_seek_38 : decode cX12_seek 38 = .ok (.iload_n 2, 1) := by decide +kernel
theorem dX12_seek_39 : decode cX12_seek 39 = .ok (.bipush 57, 2) := by decide +kernel
theorem dX12_seek_41 : decode cX12_seek 41 = .ok (.iadd, 1) := by decide +kernel
theorem dX12_seek_42 : decode cX12_seek 42 = .ok (.iconst 4, 1) := by decide +kernel
theorem dX12_seek_43 : decode cX12_seek 43 = .ok (.invokestatic 257, 3) := by decide +kernel
theorem dX12_seek_46 : decode cX12_seek 46 = .ok (.l2i, 1) := by decide +kernel
theorem dX12_seek_47 : decode cX12_seek 47 = .ok (.istore 5, 2) := by decide +kernel
theorem dX12_seek_49 : decode cX12_seek 49 = .ok (.iload_n 3, 1) := by decide +kernel
theorem dX12_seek_50 : decode cX12_seek 50 = .ok (.iload 5, 2) := by decide +kernel
theorem dX12_seek_52 : decode cX12_seek 52 = .ok (.if_icmp .ge 64, 3) := by decide +kernel
theorem dX12_seek_55 : decode cX12_seek 55 = .ok (.aload_n 0, 1) := by decide +kernel
theorem dX12_seek_56 : decode cX12_seek 56 = .ok (.aload_n 0, 1) := by decide +kernel
theorem dX12_seek_57 : decode cX12_seek 57 = .ok (.getfield 72, 3) := by decide +kernel
theorem dX12_seek_60 : decode cX12_seek 60 = .ok (.iload_n 2, 1) := by decide +kernel
theorem dX12_seek_61 : decode cX12_seek 61 = .ok (.bipush 61, 2) := by decide +kernel
theorem dX12_seek_63 : decode cX12_seek 63 = .ok (.iadd, 1) := by decide +kernel
theorem dX12_seek_64 : decode cX12_seek 64 = .ok (.iload_n 2, 1) := by decide +kernel
theorem dX12_seek_65 : decode cX12_seek 65 = .ok (.iload 4, 2) := by decide +kernel
theorem dX12_seek_67 : decode cX12_seek 67 = .ok (.iadd, 1) := by decide +kernel
theorem dX12_seek_68 : decode cX12_seek 68 = .ok (.invokevirtual 275, 3) := by decide +kernel
theorem dX12_seek_71 : decode cX12_seek 71 = .ok (.iconst 0, 1) := by decide +kernel
theorem dX12_seek_72 : decode cX12_seek 72 = .ok (.istore 6, 2) := by decide +kernel
theorem dX12_seek_74 : decode cX12_seek 74 = .ok (.iload 6, 2) := by decide +kernel
theorem dX12_seek_76 : decode cX12_seek 76 = .ok (.iload_n 3, 1) := by decide +kernel
theorem dX12_seek_77 : decode cX12_seek 77 = .ok (.if_icmp .gt 28, 3) := by decide +kernel
theorem dX12_seek_80 : decode cX12_seek 80 = .ok (.aload_n 0, 1) := by decide +kernel
theorem dX12_seek_81 : decode cX12_seek 81 = .ok (.aload_n 0, 1) := by decide +kernel
theorem dX12_seek_82 : decode cX12_seek 82 = .ok (.getfield 72, 3) := by decide +kernel
theorem dX12_seek_85 : decode cX12_seek 85 = .ok (.iload_n 2, 1) := by decide +kernel
theorem dX12_seek_86 : decode cX12_seek 86 = .ok (.bipush 27, 2) := by decide +kernel
theorem dX12_seek_88 : decode cX12_seek 88 = .ok (.iadd, 1) := by decide +kernel
theorem dX12_seek_89 : decode cX12_seek 89 = .ok (.bipush 8, 2) := by decide +kernel
theorem dX12_seek_91 : decode cX12_seek 91 = .ok (.invokestatic 257, 3) := by decide +kernel
theorem dX12_seek_94 : decode cX12_seek 94 = .ok (.invokevirtual 279, 3) := by decide +kernel
theorem dX12_seek_97 : decode cX12_seek 97 = .ok (.istore 7, 2) := by decide +kernel
theorem dX12_seek_99 : decode cX12_seek 99 = .ok (.iinc 6 1, 3) := by decide +kernel
theorem dX12_seek_102 : decode cX12_seek 102 = .ok (.goto (-28), 3) := by decide +kernel
theorem dX12_seek_105 : decode cX12_seek 105 = .ok (.aload_n 0, 1) := by decide +kernel
theorem dX12_seek_106 : decode cX12_seek 106 = .ok (.getfield 72, 3) := by decide +kernel
theorem dX12_seek_109 : decode cX12_seek 109 = .ok (.iload_n 2, 1) := by decide +kernel
theorem dX12_seek_110 : decode cX12_seek 110 = .ok (.bipush 8, 2) := by decide +kernel
theorem dX12_seek_112 : decode cX12_seek 112 = .ok (.invokestatic 257, 3) := by decide +kernel
theorem dX12_seek_115 : decode cX12_seek 115 = .ok (.lreturn, 1) := by decide +kernel
theorem dX12_seek_116 : decode cX12_seek 116 = .ok (.iload_n 3, 1) := by decide +kernel
theorem dX12_seek_117 : decode cX12_seek 117 = .ok (.iload 5, 2) := by decide +kernel
theorem dX12_seek_119 : decode cX12_seek 119 = .ok (.isub, 1) := by decide +kernel
theorem dX12_seek_120 : decode cX12_seek 120 = .ok (.istore_n 3, 1) := by decide +kernel
theorem dX12_seek_121 : decode cX12_seek 121 = .ok (.iload_n 2, 1) := by decide +kernel
theorem dX12_seek_122 : decode cX12_seek 122 = .ok (.iload 4, 2) := by decide +kernel
theorem dX12_seek_124 : decode cX12_seek 124 = .ok (.iadd, 1) := by decide +kernel
theorem dX12_seek_125 : decode cX12_seek 125 = .ok (.istore_n 2, 1) := by decide +kernel
theorem dX12_seek_126 : decode cX12_seek 126 = .ok (.goto (-122), 3) := by decide +kernel
theorem dX12_seek_129 : decode cX12_seek 129 = .ok (.ldc2_w 205, 3) := by decide +kernel
theorem dX12_seek_132 : decode cX12_seek 132 = .ok (.lreturn, 1) := by decide +kernel
theorem dX12_taken_0 : decode cX12_taken 0 = .ok (.iload_n 2, 1) := by decide +kernel
theorem dX12_taken_1 : decode cX12_taken 1 = .ok (.ifCond .lt 8, 3) := by decide +kernel
theorem dX12_taken_4 : decode cX12_taken 4 = .ok (.iload_n 2, 1) := by decide +kernel
theorem dX12_taken_5 : decode cX12_taken 5 = .ok (.iconst 5, 1) := by decide +kernel
theorem dX12_taken_6 : decode cX12_taken 6 = .ok (.if_icmp .le 9, 3) := by decide +kernel
theorem dX12_taken_9 : decode cX12_taken 9 = .ok (.ldc2_w 205, 3) := by decide +kernel
theorem dX12_taken_12 : decode cX12_taken 12 = .ok (.goto 8, 3) := by decide +kernel
theorem dX12_taken_15 : decode cX12_taken 15 = .ok (.aload_n 0, 1) := by decide +kernel
theorem dX12_taken_16 : decode cX12_taken 16 = .ok (.iload_n 1, 1) := by decide +kernel
theorem dX12_taken_17 : decode cX12_taken 17 = .ok (.invokevirtual 388, 3) := by decide +kernel
theorem dX12_taken_20 : decode cX12_taken 20 = .ok (.lstore_n 3, 1) := by decide +kernel
theorem dX12_taken_21 : decode cX12_taken 21 = .ok (.aload_n 0, 1) := by decide +kernel
theorem dX12_taken_22 : decode cX12_taken 22 = .ok (.lload_n 3, 1) := by decide +kernel
theorem dX12_taken_23 : decode cX12_taken 23 = .ok (.lconst 0, 1) := by decide +kernel
theorem dX12_taken_24 : decode cX12_taken 24 = .ok (.lcmp, 1) := by decide +kernel
theorem dX12_taken_25 : decode cX12_taken 25 = .ok (.ifCond .ge 7, 3) := by decide +kernel
theorem dX12_taken_28 : decode cX12_taken 28 = .ok (.iconst 1, 1) := by decide +kernel
theorem dX12_taken_29 : decode cX12_taken 29 = .ok (.goto 4, 3) := by decide +kernel
theorem dX12_taken_32 : decode cX12_taken 32 = .ok (.iconst 0, 1) := by decide +kernel
theorem dX12_taken_33 : decode cX12_taken 33 = .ok (.putfield 145, 3) := by decide +kernel
theorem dX12_taken_36 : decode cX12_taken 36 = .ok (.aload_n 0, 1) := by decide +kernel
theorem dX12_taken_37 : decode cX12_taken 37 = .ok (.getfield 145, 3) := by decide +kernel
theorem dX12_taken_40 : decode cX12_taken 40 = .ok (.ifCond .le 5, 3) := by decide +kernel
theorem dX12_taken_43 : decode cX12_taken 43 = .ok (.lconst 0, 1) := by decide +kernel
theorem dX12_taken_44 : decode cX12_taken 44 = .ok (.lreturn, 1) := by decide +kernel
theorem dX12_taken_45 : decode cX12_taken 45 = .ok (.iload_n 2, 1) := by decide +kernel
theorem dX12_taken_46 : decode cX12_taken 46 = .ok (.tableswitch 72 0 4 #[34, 41, 46, 51, 67], 34) := by decide +kernel
theorem dX12_taken_80 : decode cX12_taken 80 = .ok (.lload_n 3, 1) := by decide +kernel
theorem dX12_taken_81 : decode cX12_taken 81 = .ok (.aload_n 0, 1) := by decide +kernel
theorem dX12_taken_82 : decode cX12_taken 82 = .ok (.getfield 233, 3) := by decide +kernel
theorem dX12_taken_85 : decode cX12_taken 85 = .ok (.ladd, 1) := by decide +kernel
theorem dX12_taken_86 : decode cX12_taken 86 = .ok (.lreturn, 1) := by decide +kernel
theorem dX12_taken_87 : decode cX12_taken 87 = .ok (.aload_n 0, 1) := by decide +kernel
theorem dX12_taken_88 : decode cX12_taken 88 = .ok (.getfield 227, 3) := by decide +kernel
theorem dX12_taken_91 : decode cX12_taken 91 = .ok (.lreturn, 1) := by decide +kernel
theorem dX12_taken_92 : decode cX12_taken 92 = .ok (.aload_n 0, 1) := by decide +kernel
theorem dX12_taken_93 : decode cX12_taken 93 = .ok (.getfield 239, 3) := by decide +kernel
theorem dX12_taken_96 : decode cX12_taken 96 = .ok (.lreturn, 1) := by decide +kernel
theorem dX12_taken_97 : decode cX12_taken 97 = .ok (.aload_n 0, 1) := by decide +kernel
theorem dX12_taken_98 : decode cX12_taken 98 = .ok (.getfield 72, 3) := by decide +kernel
theorem dX12_taken_101 : decode cX12_taken 101 = .ok (.aload_n 0, 1) := by decide +kernel
theorem dX12_taken_102 : decode cX12_taken 102 = .ok (.getfield 242, 3) := by decide +kernel
theorem dX12_taken_105 : decode cX12_taken 105 = .ok (.aload_n 0, 1) := by decide +kernel
theorem dX12_taken_106 : decode cX12_taken 106 = .ok (.getfield 239, 3) := by decide +kernel
theorem dX12_taken_109 : decode cX12_taken 109 = .ok (.invokestatic 268, 3) := by decide +kernel
theorem dX12_taken_112 : decode cX12_taken 112 = .ok (.lreturn, 1) := by decide +kernel
theorem dX12_taken_113 : decode cX12_taken 113 = .ok (.aload_n 0, 1) := by decide +kernel
theorem dX12_taken_114 : decode cX12_taken 114 = .ok (.getfield 245, 3) := by decide +kernel
theorem dX12_taken_117 : decode cX12_taken 117 = .ok (.lreturn, 1) := by decide +kernel
theorem dX12_taken_118 : decode cX12_taken 118 = .ok (.aload_n 0, 1) := by decide +kernel
theorem dX12_taken_119 : decode cX12_taken 119 = .ok (.getfield 72, 3) := by decide +kernel
theorem dX12_taken_122 : decode cX12_taken 122 = .ok (.aload_n 0, 1) := by decide +kernel
theorem dX12_taken_123 : decode cX12_taken 123 = .ok (.getfield 248, 3) := by decide +kernel
theorem dX12_taken_126 : decode cX12_taken 126 = .ok (.aload_n 0, 1) := by decide +kernel
theorem dX12_taken_127 : decode cX12_taken 127 = .ok (.getfield 245, 3) := by decide +kernel
theorem dX12_taken_130 : decode cX12_taken 130 = .ok (.invokestatic 268, 3) := by decide +kernel
theorem dX12_taken_133 : decode cX12_taken 133 = .ok (.lreturn, 1) := by decide +kernel
theorem dX12_find_0 : decode cX12_find 0 = .ok (.aload_n 0, 1) := by decide +kernel
theorem dX12_find_1 : decode cX12_find 1 = .ok (.iload_n 1, 1) := by decide +kernel
theorem dX12_find_2 : decode cX12_find 2 = .ok (.ifCond .lt 15, 3) := by decide +kernel
theorem dX12_find_5 : decode cX12_find 5 = .ok (.iload_n 1, 1) := by decide +kernel
theorem dX12_find_6 : decode cX12_find 6 = .ok (.aload_n 0, 1) := by decide +kernel
theorem dX12_find_7 : decode cX12_find 7 = .ok (.getfield 136, 3) := by decide +kernel
theorem dX12_find_10 : decode cX12_find 10 = .ok (.if_icmp .gt 7, 3) := by decide +kernel
theorem dX12_find_13 : decode cX12_find 13 = .ok (.iconst 1, 1) := by decide +kernel
theorem dX12_find_14 : decode cX12_find 14 = .ok (.goto 4, 3) := by decide +kernel
theorem dX12_find_17 : decode cX12_find 17 = .ok (.iconst 0, 1) := by decide +kernel
theorem dX12_find_18 : decode cX12_find 18 = .ok (.invokevirtual 361, 3) := by decide +kernel
theorem dX12_find_21 : decode cX12_find 21 = .ok (.ifCond .ne 5, 3) := by decide +kernel
theorem dX12_find_24 : decode cX12_find 24 = .ok (.lconst 0, 1) := by decide +kernel
theorem dX12_find_25 : decode cX12_find 25 = .ok (.lreturn, 1) := by decide +kernel
theorem dX12_find_26 : decode cX12_find 26 = .ok (.iconst 0, 1) := by decide +kernel
theorem dX12_find_27 : decode cX12_find 27 = .ok (.istore 4, 2) := by decide +kernel
theorem dX12_find_29 : decode cX12_find 29 = .ok (.iload 4, 2) := by decide +kernel
theorem dX12_find_31 : decode cX12_find 31 = .ok (.aload_n 0, 1) := by decide +kernel
theorem dX12_find_32 : decode cX12_find 32 = .ok (.getfield 295, 3) := by decide +kernel
theorem dX12_find_35 : decode cX12_find 35 = .ok (.if_icmp .ge 79, 3) := by decide +kernel
theorem dX12_find_38 : decode cX12_find 38 = .ok (.aload_n 0, 1) := by decide +kernel
theorem dX12_find_39 : decode cX12_find 39 = .ok (.getfield 33, 3) := by decide +kernel
theorem dX12_find_42 : decode cX12_find 42 = .ok (.iload 4, 2) := by decide +kernel
theorem dX12_find_44 : decode cX12_find 44 = .ok (.iaload, 1) := by decide +kernel
theorem dX12_find_45 : decode cX12_find 45 = .ok (.iload_n 1, 1) := by decide +kernel
theorem dX12_find_46 : decode cX12_find 46 = .ok (.if_icmp .ne 62, 3) := by decide +kernel
theorem dX12_find_49 : decode cX12_find 49 = .ok (.aload_n 0, 1) := by decide +kernel
theorem dX12_find_50 : decode cX12_find 50 = .ok (.iload 4, 2) := by decide +kernel
theorem dX12_find_52 : decode cX12_find 52 = .ok (.invokevirtual 376, 3) := by decide +kernel
theorem dX12_find_55 : decode cX12_find 55 = .ok (.iconst 0, 1) := by decide +kernel
theorem dX12_find_56 : decode cX12_find 56 = .ok (.istore 5, 2) := by decide +kernel
theorem dX12_find_58 : decode cX12_find 58 = .ok (.iload 5, 2) := by decide +kernel
theorem dX12_find_60 : decode cX12_find 60 = .ok (.aload_n 0, 1) := by decide +kernel
theorem dX12_find_61 : decode cX12_find 61 = .ok (.iload 4, 2) := by decide +kernel
theorem dX12_find_63 : decode cX12_find 63 = .ok (.invokevirtual 319, 3) := by decide +kernel
theorem dX12_find_66 : decode cX12_find 66 = .ok (.if_icmp .ge 42, 3) := by decide +kernel
theorem dX12_find_69 : decode cX12_find 69 = .ok (.aload_n 0, 1) := by decide +kernel
theorem dX12_find_70 : decode cX12_find 70 = .ok (.aload_n 0, 1) := by decide +kernel
theorem dX12_find_71 : decode cX12_find 71 = .ok (.iload 4, 2) := by decide +kernel
theorem dX12_find_73 : decode cX12_find 73 = .ok (.invokevirtual 379, 3) := by decide +kernel
theorem dX12_find_76 : decode cX12_find 76 = .ok (.invokevirtual 279, 3) := by decide +kernel
theorem dX12_find_79 : decode cX12_find 79 = .ok (.istore 6, 2) := by decide +kernel
theorem dX12_find_81 : decode cX12_find 81 = .ok (.aload_n 0, 1) := by decide +kernel
theorem dX12_find_82 : decode cX12_find 82 = .ok (.getfield 227, 3) := by decide +kernel
theorem dX12_find_85 : decode cX12_find 85 = .ok (.lload_n 2, 1) := by decide +kernel
theorem dX12_find_86 : decode cX12_find 86 = .ok (.lcmp, 1) := by decide +kernel
theorem dX12_find_87 : decode cX12_find 87 = .ok (.ifCond .lt 15, 3) := by decide +kernel
theorem dX12_find_90 : decode cX12_find 90 = .ok (.aload_n 0, 1) := by decide +kernel
theorem dX12_find_91 : decode cX12_find 91 = .ok (.iload 4, 2) := by decide +kernel
theorem dX12_find_93 : decode cX12_find 93 = .ok (.invokevirtual 343, 3) := by decide +kernel
theorem dX12_find_96 : decode cX12_find 96 = .ok (.aload_n 0, 1) := by decide +kernel
theorem dX12_find_97 : decode cX12_find 97 = .ok (.getfield 233, 3) := by decide +kernel
theorem dX12_find_100 : decode cX12_find 100 = .ok (.ladd, 1) := by decide +kernel
theorem dX12_find_101 : decode cX12_find 101 = .ok (.lreturn, 1) := by decide +kernel
theorem dX12_find_102 : decode cX12_find 102 = .ok (.iinc 5 1, 3) := by decide +kernel
theorem dX12_find_105 : decode cX12_find 105 = .ok (.goto (-47), 3) := by decide +kernel
theorem dX12_find_108 : decode cX12_find 108 = .ok (.iinc 4 1, 3) := by decide +kernel
theorem dX12_find_111 : decode cX12_find 111 = .ok (.goto (-82), 3) := by decide +kernel
theorem dX12_find_114 : decode cX12_find 114 = .ok (.ldc2_w 205, 3) := by decide +kernel
theorem dX12_find_117 : decode cX12_find 117 = .ok (.lreturn, 1) := by decide +kernel
theorem dX12_copy_0 : decode cX12_copy 0 = .ok (.aload_n 0, 1) := by decide +kernel
theorem dX12_copy_1 : decode cX12_copy 1 = .ok (.getfield 33, 3) := by decide +kernel
theorem dX12_copy_4 : decode cX12_copy 4 = .ok (.iload_n 2, 1) := by decide +kernel
theorem dX12_copy_5 : decode cX12_copy 5 = .ok (.aload_n 0, 1) := by decide +kernel
theorem dX12_copy_6 : decode cX12_copy 6 = .ok (.getfield 33, 3) := by decide +kernel
theorem dX12_copy_9 : decode cX12_copy 9 = .ok (.iload_n 1, 1) := by decide +kernel
theorem dX12_copy_10 : decode cX12_copy 10 = .ok (.iaload, 1) := by decide +kernel
theorem dX12_copy_11 : decode cX12_copy 11 = .ok (.iastore, 1) := by decide +kernel
theorem dX12_copy_12 : decode cX12_copy 12 = .ok (.aload_n 0, 1) := by decide +kernel
theorem dX12_copy_13 : decode cX12_copy 13 = .ok (.getfield 36, 3) := by decide +kernel
theorem dX12_copy_16 : decode cX12_copy 16 = .ok (.iload_n 2, 1) := by decide +kernel
theorem dX12_copy_17 : decode cX12_copy 17 = .ok (.aload_n 0, 1) := by decide +kernel
theorem dX12_copy_18 : decode cX12_copy 18 = .ok (.getfield 36, 3) := by decide +kernel
theorem dX12_copy_21 : decode cX12_copy 21 = .ok (.iload_n 1, 1) := by decide +kernel
theorem dX12_copy_22 : decode cX12_copy 22 = .ok (.iaload, 1) := by decide +kernel
theorem dX12_copy_23 : decode cX12_copy 23 = .ok (.iastore, 1) := by decide +kernel
theorem dX12_copy_24 : decode cX12_copy 24 = .ok (.aload_n 0, 1) := by decide +kernel
theorem dX12_copy_25 : decode cX12_copy 25 = .ok (.getfield 39, 3) := by decide +kernel
theorem dX12_copy_28 : decode cX12_copy 28 = .ok (.iload_n 2, 1) := by decide +kernel
theorem dX12_copy_29 : decode cX12_copy 29 = .ok (.aload_n 0, 1) := by decide +kernel
theorem dX12_copy_30 : decode cX12_copy 30 = .ok (.getfield 39, 3) := by decide +kernel
theorem dX12_copy_33 : decode cX12_copy 33 = .ok (.iload_n 1, 1) := by decide +kernel
theorem dX12_copy_34 : decode cX12_copy 34 = .ok (.iaload, 1) := by decide +kernel
theorem dX12_copy_35 : decode cX12_copy 35 = .ok (.iastore, 1) := by decide +kernel
theorem dX12_copy_36 : decode cX12_copy 36 = .ok (.aload_n 0, 1) := by decide +kernel
theorem dX12_copy_37 : decode cX12_copy 37 = .ok (.getfield 42, 3) := by decide +kernel
theorem dX12_copy_40 : decode cX12_copy 40 = .ok (.iload_n 2, 1) := by decide +kernel
theorem dX12_copy_41 : decode cX12_copy 41 = .ok (.aload_n 0, 1) := by decide +kernel
theorem dX12_copy_42 : decode cX12_copy 42 = .ok (.getfield 42, 3) := by decide +kernel
theorem dX12_copy_45 : decode cX12_copy 45 = .ok (.iload_n 1, 1) := by decide +kernel
theorem dX12_copy_46 : decode cX12_copy 46 = .ok (.iaload, 1) := by decide +kernel
theorem dX12_copy_47 : decode cX12_copy 47 = .ok (.iastore, 1) := by decide +kernel
theorem dX12_copy_48 : decode cX12_copy 48 = .ok (.return_, 1) := by decide +kernel
theorem dX12_retain_0 : decode cX12_retain 0 = .ok (.aload_n 0, 1) := by decide +kernel
theorem dX12_retain_1 : decode cX12_retain 1 = .ok (.iload_n 1, 1) := by decide +kernel
theorem dX12_retain_2 : decode cX12_retain 2 = .ok (.ifCond .lt 19, 3) := by decide +kernel
theorem dX12_retain_5 : decode cX12_retain 5 = .ok (.iload_n 1, 1) := by decide +kernel
theorem dX12_retain_6 : decode cX12_retain 6 = .ok (.aload_n 0, 1) := by decide +kernel
theorem dX12_retain_7 : decode cX12_retain 7 = .ok (.getfield 136, 3) := by decide +kernel
theorem dX12_retain_10 : decode cX12_retain 10 = .ok (.if_icmp .ge 11, 3) := by decide +kernel
theorem dX12_retain_13 : decode cX12_retain 13 = .ok (.iload_n 2, 1) := by decide +kernel
theorem dX12_retain_14 : decode cX12_retain 14 = .ok (.ifCond .lt 7, 3) := by decide +kernel
theorem dX12_retain_17 : decode cX12_retain 17 = .ok (.iconst 1, 1) := by decide +kernel
theorem dX12_retain_18 : decode cX12_retain 18 = .ok (.goto 4, 3) := by decide +kernel
theorem dX12_retain_21 : decode cX12_retain 21 = .ok (.iconst 0, 1) := by decide +kernel
theorem dX12_retain_22 : decode cX12_retain 22 = .ok (.invokevirtual 361, 3) := by decide +kernel
theorem dX12_retain_25 : decode cX12_retain 25 = .ok (.ifCond .ne 5, 3) := by decide +kernel
theorem dX12_retain_28 : decode cX12_retain 28 = .ok (.iconst 0, 1) := by decide +kernel
theorem dX12_retain_29 : decode cX12_retain 29 = .ok (.ireturn, 1) := by decide +kernel
theorem dX12_retain_30 : decode cX12_retain 30 = .ok (.iconst 0, 1) := by decide +kernel
theorem dX12_retain_31 : decode cX12_retain 31 = .ok (.istore_n 3, 1) := by decide +kernel
theorem dX12_retain_32 : decode cX12_retain 32 = .ok (.iconst 0, 1) := by decide +kernel
theorem dX12_retain_33 : decode cX12_retain 33 = .ok (.istore 4, 2) := by decide +kernel
theorem dX12_retain_35 : decode cX12_retain 35 = .ok (.iload 4, 2) := by decide +kernel
theorem dX12_retain_37 : decode cX12_retain 37 = .ok (.aload_n 0, 1) := by decide +kernel
theorem dX12_retain_38 : decode cX12_retain 38 = .ok (.getfield 58, 3) := by decide +kernel
theorem dX12_retain_41 : decode cX12_retain 41 = .ok (.iload_n 1, 1) := by decide +kernel
theorem dX12_retain_42 : decode cX12_retain 42 = .ok (.iaload, 1) := by decide +kernel
theorem dX12_retain_43 : decode cX12_retain 43 = .ok (.if_icmp .ge 24, 3) := by decide +kernel
theorem dX12_retain_46 : decode cX12_retain 46 = .ok (.iload_n 3, 1) := by decide +kernel
theorem dX12_retain_47 : decode cX12_retain 47 = .ok (.aload_n 0, 1) := by decide +kernel
theorem dX12_retain_48 : decode cX12_retain 48 = .ok (.getfield 64, 3) := by decide +kernel
theorem dX12_retain_51 : decode cX12_retain 51 = .ok (.bipush 60, 2) := by decide +kernel
theorem dX12_retain_53 : decode cX12_retain 53 = .ok (.iload_n 1, 1) := by decide +kernel
theorem dX12_retain_54 : decode cX12_retain 54 = .ok (.imul, 1) := by decide +kernel
theorem dX12_retain_55 : decode cX12_retain 55 = .ok (.iload 4, 2) := by decide +kernel
theorem dX12_retain_57 : decode cX12_retain 57 = .ok (.iadd, 1) := by decide +kernel
theorem dX12_retain_58 : decode cX12_retain 58 = .ok (.iaload, 1) := by decide +kernel
theorem dX12_retain_59 : decode cX12_retain 59 = .ok (.iadd, 1) := by decide +kernel
theorem dX12_retain_60 : decode cX12_retain 60 = .ok (.istore_n 3, 1) := by decide +kernel
theorem dX12_retain_61 : decode cX12_retain 61 = .ok (.iinc 4 1, 3) := by decide +kernel
theorem dX12_retain_64 : decode cX12_retain 64 = .ok (.goto (-29), 3) := by decide +kernel
theorem dX12_retain_67 : decode cX12_retain 67 = .ok (.iconst 0, 1) := by decide +kernel
theorem dX12_retain_68 : decode cX12_retain 68 = .ok (.istore 4, 2) := by decide +kernel
theorem dX12_retain_70 : decode cX12_retain 70 = .ok (.iconst 1, 1) := by decide +kernel
theorem dX12_retain_71 : decode cX12_retain 71 = .ok (.istore 5, 2) := by decide +kernel
theorem dX12_retain_73 : decode cX12_retain 73 = .ok (.iload 5, 2) := by decide +kernel
theorem dX12_retain_75 : decode cX12_retain 75 = .ok (.ifCond .eq 83, 3) := by decide +kernel
theorem dX12_retain_78 : decode cX12_retain 78 = .ok (.iload 4, 2) := by decide +kernel
theorem dX12_retain_80 : decode cX12_retain 80 = .ok (.iconst 1, 1) := by decide +kernel
theorem dX12_retain_81 : decode cX12_retain 81 = .ok (.iadd, 1) := by decide +kernel
theorem dX12_retain_82 : decode cX12_retain 82 = .ok (.aload_n 0, 1) := by decide +kernel
theorem dX12_retain_83 : decode cX12_retain 83 = .ok (.getfield 58, 3) := by decide +kernel
theorem dX12_retain_86 : decode cX12_retain 86 = .ok (.iload_n 1, 1) := by decide +kernel
theorem dX12_retain_87 : decode cX12_retain 87 = .ok (.iaload, 1) := by decide +kernel
theorem dX12_retain_88 : decode cX12_retain 88 = .ok (.if_icmp .ge 25, 3) := by decide +kernel
theorem dX12_retain_91 : decode cX12_retain 91 = .ok (.iload_n 3, 1) := by decide +kernel
theorem dX12_retain_92 : decode cX12_retain 92 = .ok (.aload_n 0, 1) := by decide +kernel
theorem dX12_retain_93 : decode cX12_retain 93 = .ok (.getfield 64, 3) := by decide +kernel
theorem dX12_retain_96 : decode cX12_retain 96 = .ok (.bipush 60, 2) := by decide +kernel
theorem dX12_retain_98 : decode cX12_retain 98 = .ok (.iload_n 1, 1) := by decide +kernel
theorem dX12_retain_99 : decode cX12_retain 99 = .ok (.imul, 1) := by decide +kernel
theorem dX12_retain_100 : decode cX12_retain 100 = .ok (.iload 4, 2) := by decide +kernel
theorem dX12_retain_102 : decode cX12_retain 102 = .ok (.iadd, 1) := by decide +kernel
theorem dX12_retain_103 : decode cX12_retain 103 = .ok (.iaload, 1) := by decide +kernel
theorem dX12_retain_104 : decode cX12_retain 104 = .ok (.isub, 1) := by decide +kernel
theorem dX12_retain_105 : decode cX12_retain 105 = .ok (.iload_n 2, 1) := by decide +kernel
theorem dX12_retain_106 : decode cX12_retain 106 = .ok (.if_icmp .lt 7, 3) := by decide +kernel
theorem dX12_retain_109 : decode cX12_retain 109 = .ok (.iconst 1, 1) := by decide +kernel
theorem dX12_retain_110 : decode cX12_retain 110 = .ok (.goto 4, 3) := by decide +kernel
theorem dX12_retain_113 : decode cX12_retain 113 = .ok (.iconst 0, 1) := by decide +kernel
theorem dX12_retain_114 : decode cX12_retain 114 = .ok (.istore 5, 2) := by decide +kernel
theorem dX12_retain_116 : decode cX12_retain 116 = .ok (.iload_n 3, 1) := by decide +kernel
theorem dX12_retain_117 : decode cX12_retain 117 = .ok (.iload 5, 2) := by decide +kernel
theorem dX12_retain_119 : decode cX12_retain 119 = .ok (.ifCond .eq 18, 3) := by decide +kernel
theorem dX12_retain_122 : decode cX12_retain 122 = .ok (.aload_n 0, 1) := by decide +kernel
theorem dX12_retain_123 : decode cX12_retain 123 = .ok (.getfield 64, 3) := by decide +kernel
theorem dX12_retain_126 : decode cX12_retain 126 = .ok (.bipush 60, 2) := by decide +kernel
theorem dX12_retain_128 : decode cX12_retain 128 = .ok (.iload_n 1, 1) := by decide +kernel
theorem dX12_retain_129 : decode cX12_retain 129 = .ok (.imul, 1) := by decide +kernel
theorem dX12_retain_130 : decode cX12_retain 130 = .ok (.iload 4, 2) := by decide +kernel
theorem dX12_retain_132 : decode cX12_retain 132 = .ok (.iadd, 1) := by decide +kernel
theorem dX12_retain_133 : decode cX12_retain 133 = .ok (.iaload, 1) := by decide +kernel
theorem dX12_retain_134 : decode cX12_retain 134 = .ok (.goto 4, 3) := by decide +kernel
theorem dX12_retain_137 : decode cX12_retain 137 = .ok (.iconst 0, 1) := by decide +kernel
theorem dX12_retain_138 : decode cX12_retain 138 = .ok (.isub, 1) := by decide +kernel
theorem dX12_retain_139 : decode cX12_retain 139 = .ok (.istore_n 3, 1) := by decide +kernel
theorem dX12_retain_140 : decode cX12_retain 140 = .ok (.iload 4, 2) := by decide +kernel
theorem dX12_retain_142 : decode cX12_retain 142 = .ok (.iload 5, 2) := by decide +kernel
theorem dX12_retain_144 : decode cX12_retain 144 = .ok (.ifCond .eq 7, 3) := by decide +kernel
theorem dX12_retain_147 : decode cX12_retain 147 = .ok (.iconst 1, 1) := by decide +kernel
theorem dX12_retain_148 : decode cX12_retain 148 = .ok (.goto 4, 3) := by decide +kernel
theorem dX12_retain_151 : decode cX12_retain 151 = .ok (.iconst 0, 1) := by decide +kernel
theorem dX12_retain_152 : decode cX12_retain 152 = .ok (.iadd, 1) := by decide +kernel
theorem dX12_retain_153 : decode cX12_retain 153 = .ok (.istore 4, 2) := by decide +kernel
theorem dX12_retain_155 : decode cX12_retain 155 = .ok (.goto (-82), 3) := by decide +kernel
theorem dX12_retain_158 : decode cX12_retain 158 = .ok (.iload 4, 2) := by decide +kernel
theorem dX12_retain_160 : decode cX12_retain 160 = .ok (.ifCond .ne 5, 3) := by decide +kernel
theorem dX12_retain_163 : decode cX12_retain 163 = .ok (.iconst 0, 1) := by decide +kernel
theorem dX12_retain_164 : decode cX12_retain 164 = .ok (.ireturn, 1) := by decide +kernel
theorem dX12_retain_165 : decode cX12_retain 165 = .ok (.aload_n 0, 1) := by decide +kernel
theorem dX12_retain_166 : decode cX12_retain 166 = .ok (.iconst 1, 1) := by decide +kernel
theorem dX12_retain_167 : decode cX12_retain 167 = .ok (.invokevirtual 311, 3) := by decide +kernel
theorem dX12_retain_170 : decode cX12_retain 170 = .ok (.ifCond .eq 261, 3) := by decide +kernel
theorem dX12_retain_173 : decode cX12_retain 173 = .ok (.iconst 0, 1) := by decide +kernel
theorem dX12_retain_174 : decode cX12_retain 174 = .ok (.istore 6, 2) := by decide +kernel
theorem dX12_retain_176 : decode cX12_retain 176 = .ok (.ldc2_w 205, 3) := by decide +kernel
theorem dX12_retain_179 : decode cX12_retain 179 = .ok (.lstore 7, 2) := by decide +kernel
theorem dX12_retain_181 : decode cX12_retain 181 = .ok (.iconst 0, 1) := by decide +kernel
theorem dX12_retain_182 : decode cX12_retain 182 = .ok (.istore 9, 2) := by decide +kernel
theorem dX12_retain_184 : decode cX12_retain 184 = .ok (.iload 9, 2) := by decide +kernel
theorem dX12_retain_186 : decode cX12_retain 186 = .ok (.aload_n 0, 1) := by decide +kernel
theorem dX12_retain_187 : decode cX12_retain 187 = .ok (.getfield 295, 3) := by decide +kernel
theorem dX12_retain_190 : decode cX12_retain 190 = .ok (.if_icmp .ge 125, 3) := by decide +kernel
theorem dX12_retain_193 : decode cX12_retain 193 = .ok (.iconst 0, 1) := by decide +kernel
theorem dX12_retain_194 : decode cX12_retain 194 = .ok (.istore 10, 2) := by decide +kernel
theorem dX12_retain_196 : decode cX12_retain 196 = .ok (.iconst 0, 1) := by decide +kernel
theorem dX12_retain_197 : decode cX12_retain 197 = .ok (.istore 11, 2) := by decide +kernel
theorem dX12_retain_199 : decode cX12_retain 199 = .ok (.iload 11, 2) := by decide +kernel
theorem dX12_retain_201 : decode cX12_retain 201 = .ok (.iload 4, 2) := by decide +kernel
theorem dX12_retain_203 : decode cX12_retain 203 = .ok (.if_icmp .ge 54, 3) := by decide +kernel
theorem dX12_retain_206 : decode cX12_retain 206 = .ok (.iload 10, 2) := by decide +kernel
theorem dX12_retain_208 : decode cX12_retain 208 = .ok (.ifCond .ne 36, 3) := by decide +kernel
theorem dX12_retain_211 : decode cX12_retain 211 = .ok (.aload_n 0, 1) := by decide +kernel
theorem dX12_retain_212 : decode cX12_retain 212 = .ok (.getfield 33, 3) := by decide +kernel
theorem dX12_retain_215 : decode cX12_retain 215 = .ok (.iload 9, 2) := by decide +kernel
theorem dX12_retain_217 : decode cX12_retain 217 = .ok (.iaload, 1) := by decide +kernel
theorem dX12_retain_218 : decode cX12_retain 218 = .ok (.iload_n 1, 1) := by decide +kernel
theorem dX12_retain_219 : decode cX12_retain 219 = .ok (.if_icmp .ne 29, 3) := by decide +kernel
theorem dX12_retain_222 : decode cX12_retain 222 = .ok (.aload_n 0, 1) := by decide +kernel
theorem dX12_retain_223 : decode cX12_retain 223 = .ok (.getfield 42, 3) := by decide +kernel
theorem dX12_retain_226 : decode cX12_retain 226 = .ok (.iload 9, 2) := by decide +kernel
theorem dX12_retain_228 : decode cX12_retain 228 = .ok (.iaload, 1) := by decide +kernel
theorem dX12_retain_229 : decode cX12_retain 229 = .ok (.aload_n 0, 1) := by decide +kernel
theorem dX12_retain_230 : decode cX12_retain 230 = .ok (.getfield 61, 3) := by decide +kernel
theorem dX12_retain_233 : decode cX12_retain 233 = .ok (.bipush 60, 2) := by decide +kernel
theorem dX12_retain_235 : decode cX12_retain 235 = .ok (.iload_n 1, 1) := by decide +kernel
theorem dX12_retain_236 : decode cX12_retain 236 = .ok (.imul, 1) := by decide +kernel
theorem dX12_retain_237 : decode cX12_retain 237 = .ok (.iload 11, 2) := by decide +kernel
theorem dX12_retain_239 : decode cX12_retain 239 = .ok (.iadd, 1) := by decide +kernel
theorem dX12_retain_240 : decode cX12_retain 240 = .ok (.iaload, 1) := by decide +kernel
theorem dX12_retain_241 : decode cX12_retain 241 = .ok (.if_icmp .ne 7, 3) := by decide +kernel
theorem dX12_retain_244 : decode cX12_retain 244 = .ok (.iconst 1, 1) := by decide +kernel
theorem dX12_retain_245 : decode cX12_retain 245 = .ok (.goto 4, 3) := by decide +kernel
theorem dX12_retain_248 : decode cX12_retain 248 = .ok (.iconst 0, 1) := by decide +kernel
theorem dX12_retain_249 : decode cX12_retain 249 = .ok (.istore 10, 2) := by decide +kernel
theorem dX12_retain_251 : decode cX12_retain 251 = .ok (.iinc 11 1, 3) := by decide +kernel
theorem dX12_retain_254 : decode cX12_retain 254 = .ok (.goto (-55), 3) := by decide +kernel
theorem dX12_retain_257 : decode cX12_retain 257 = .ok (.lload 7, 2) := by decide +kernel
theorem dX12_retain_259 : decode cX12_retain 259 = .ok (.lconst 0, 1) := by decide +kernel
theorem dX12_retain_260 : decode cX12_retain 260 = .ok (.lcmp, 1) := by decide +kernel
theorem dX12_retain_261 : decode cX12_retain 261 = .ok (.ifCond .ge 28, 3) := by decide +kernel
theorem dX12_retain_264 : decode cX12_retain 264 = .ok (.aload_n 0, 1) := by decide +kernel
theorem dX12_retain_265 : decode cX12_retain 265 = .ok (.getfield 33, 3) := by decide +kernel
theorem dX12_retain_268 : decode cX12_retain 268 = .ok (.iload 9, 2) := by decide +kernel
theorem dX12_retain_270 : decode cX12_retain 270 = .ok (.iaload, 1) := by decide +kernel
theorem dX12_retain_271 : decode cX12_retain 271 = .ok (.iload_n 1, 1) := by decide +kernel
theorem dX12_retain_272 : decode cX12_retain 272 = .ok (.if_icmp .ne 17, 3) := by decide +kernel
theorem dX12_retain_275 : decode cX12_retain 275 = .ok (.iload 10, 2) := by decide +kernel
theorem dX12_retain_277 : decode cX12_retain 277 = .ok (.ifCond .ne 12, 3) := by decide +kernel
theorem dX12_retain_280 : decode cX12_retain 280 = .ok (.aload_n 0, 1) := by decide +kernel
theorem dX12_retain_281 : decode cX12_retain 281 = .ok (.iload 9, 2) := by decide +kernel
theorem dX12_retain_283 : decode cX12_retain 283 = .ok (.invokevirtual 343, 3) := by decide +kernel
theorem dX12_retain_286 : decode cX12_retain 286 = .ok (.goto 5, 3) := by decide +kernel
theorem dX12_retain_289 : decode cX12_retain 289 = .ok (.lload 7, 2) := by decide +kernel
theorem dX12_retain_291 : decode cX12_retain 291 = .ok (.lstore 7, 2) := by decide +kernel
theorem dX12_retain_293 : decode cX12_retain 293 = .ok (.iload 10, 2) := by decide +kernel
theorem dX12_retain_295 : decode cX12_retain 295 = .ok (.ifCond .ne 14, 3) := by decide +kernel
theorem dX12_retain_298 : decode cX12_retain 298 = .ok (.aload_n 0, 1) := by decide +kernel
theorem dX12_retain_299 : decode cX12_retain 299 = .ok (.iload 9, 2) := by decide +kernel
theorem dX12_retain_301 : decode cX12_retain 301 = .ok (.iload 6, 2) := by decide +kernel
theorem dX12_retain_303 : decode cX12_retain 303 = .ok (.invokevirtual 391, 3) := by decide +kernel
theorem dX12_retain_306 : decode cX12_retain 306 = .ok (.iinc 6 1, 3) := by decide +kernel
theorem dX12_retain_309 : decode cX12_retain 309 = .ok (.iinc 9 1, 3) := by decide +kernel
theorem dX12_retain_312 : decode cX12_retain 312 = .ok (.goto (-128), 3) := by decide +kernel
theorem dX12_retain_315 : decode cX12_retain 315 = .ok (.aload_n 0, 1) := by decide +kernel
theorem dX12_retain_316 : decode cX12_retain 316 = .ok (.iload 6, 2) := by decide +kernel
theorem dX12_retain_318 : decode cX12_retain 318 = .ok (.putfield 295, 3) := by decide +kernel
theorem dX12_retain_321 : decode cX12_retain 321 = .ok (.aload_n 0, 1) := by decide +kernel
theorem dX12_retain_322 : decode cX12_retain 322 = .ok (.getfield 52, 3) := by decide +kernel
theorem dX12_retain_325 : decode cX12_retain 325 = .ok (.iload_n 1, 1) := by decide +kernel
theorem dX12_retain_326 : decode cX12_retain 326 = .ok (.lload 7, 2) := by decide +kernel
theorem dX12_retain_328 : decode cX12_retain 328 = .ok (.lconst 0, 1) := by decide +kernel
theorem dX12_retain_329 : decode cX12_retain 329 = .ok (.lcmp, 1) := by decide +kernel
theorem dX12_retain_330 : decode cX12_retain 330 = .ok (.ifCond .ge 12, 3) := by decide +kernel
theorem dX12_retain_333 : decode cX12_retain 333 = .ok (.aload_n 0, 1) := by decide +kernel
theorem dX12_retain_334 : decode cX12_retain 334 = .ok (.getfield 55, 3) := by decide +kernel
theorem dX12_retain_337 : decode cX12_retain 337 = .ok (.iload_n 1, 1) := by decide +kernel
theorem dX12_retain_338 : decode cX12_retain 338 = .ok (.laload, 1) := by decide +kernel
theorem dX12_retain_339 : decode cX12_retain 339 = .ok (.goto 5, 3) := by decide +kernel
theorem dX12_retain_342 : decode cX12_retain 342 = .ok (.lload 7, 2) := by decide +kernel
theorem dX12_retain_344 : decode cX12_retain 344 = .ok (.lastore, 1) := by decide +kernel
theorem dX12_retain_345 : decode cX12_retain 345 = .ok (.iload 4, 2) := by decide +kernel
theorem dX12_retain_347 : decode cX12_retain 347 = .ok (.istore 9, 2) := by decide +kernel
theorem dX12_retain_349 : decode cX12_retain 349 = .ok (.iload 9, 2) := by decide +kernel
theorem dX12_retain_351 : decode cX12_retain 351 = .ok (.aload_n 0, 1) := by decide +kernel
theorem dX12_retain_352 : decode cX12_retain 352 = .ok (.getfield 58, 3) := by decide +kernel
theorem dX12_retain_355 : decode cX12_retain 355 = .ok (.iload_n 1, 1) := by decide +kernel
theorem dX12_retain_356 : decode cX12_retain 356 = .ok (.iaload, 1) := by decide +kernel
theorem dX12_retain_357 : decode cX12_retain 357 = .ok (.if_icmp .ge 63, 3) := by decide +kernel
theorem dX12_retain_360 : decode cX12_retain 360 = .ok (.aload_n 0, 1) := by decide +kernel
theorem dX12_retain_361 : decode cX12_retain 361 = .ok (.getfield 61, 3) := by decide +kernel
theorem dX12_retain_364 : decode cX12_retain 364 = .ok (.bipush 60, 2) := by decide +kernel
theorem dX12_retain_366 : decode cX12_retain 366 = .ok (.iload_n 1, 1) := by decide +kernel
theorem dX12_retain_367 : decode cX12_retain 367 = .ok (.imul, 1) := by decide +kernel
theorem dX12_retain_368 : decode cX12_retain 368 = .ok (.iload 9, 2) := by decide +kernel
theorem dX12_retain_370 : decode cX12_retain 370 = .ok (.iadd, 1) := by decide +kernel
theorem dX12_retain_371 : decode cX12_retain 371 = .ok (.iload 4, 2) := by decide +kernel
theorem dX12_retain_373 : decode cX12_retain 373 = .ok (.isub, 1) := by decide +kernel
theorem dX12_retain_374 : decode cX12_retain 374 = .ok (.aload_n 0, 1) := by decide +kernel
theorem dX12_retain_375 : decode cX12_retain 375 = .ok (.getfield 61, 3) := by decide +kernel
theorem dX12_retain_378 : decode cX12_retain 378 = .ok (.bipush 60, 2) := by decide +kernel
theorem dX12_retain_380 : decode cX12_retain 380 = .ok (.iload_n 1, 1) := by decide +kernel
theorem dX12_retain_381 : decode cX12_retain 381 = .ok (.imul, 1) := by decide +kernel
theorem dX12_retain_382 : decode cX12_retain 382 = .ok (.iload 9, 2) := by decide +kernel
theorem dX12_retain_384 : decode cX12_retain 384 = .ok (.iadd, 1) := by decide +kernel
theorem dX12_retain_385 : decode cX12_retain 385 = .ok (.iaload, 1) := by decide +kernel
theorem dX12_retain_386 : decode cX12_retain 386 = .ok (.iastore, 1) := by decide +kernel
theorem dX12_retain_387 : decode cX12_retain 387 = .ok (.aload_n 0, 1) := by decide +kernel
theorem dX12_retain_388 : decode cX12_retain 388 = .ok (.getfield 64, 3) := by decide +kernel
theorem dX12_retain_391 : decode cX12_retain 391 = .ok (.bipush 60, 2) := by decide +kernel
theorem dX12_retain_393 : decode cX12_retain 393 = .ok (.iload_n 1, 1) := by decide +kernel
theorem dX12_retain_394 : decode cX12_retain 394 = .ok (.imul, 1) := by decide +kernel
theorem dX12_retain_395 : decode cX12_retain 395 = .ok (.iload 9, 2) := by decide +kernel
theorem dX12_retain_397 : decode cX12_retain 397 = .ok (.iadd, 1) := by decide +kernel
theorem dX12_retain_398 : decode cX12_retain 398 = .ok (.iload 4, 2) := by decide +kernel
theorem dX12_retain_400 : decode cX12_retain 400 = .ok (.isub, 1) := by decide +kernel
theorem dX12_retain_401 : decode cX12_retain 401 = .ok (.aload_n 0, 1) := by decide +kernel
theorem dX12_retain_402 : decode cX12_retain 402 = .ok (.getfield 64, 3) := by decide +kernel
theorem dX12_retain_405 : decode cX12_retain 405 = .ok (.bipush 60, 2) := by decide +kernel
theorem dX12_retain_407 : decode cX12_retain 407 = .ok (.iload_n 1, 1) := by decide +kernel
theorem dX12_retain_408 : decode cX12_retain 408 = .ok (.imul, 1) := by decide +kernel
theorem dX12_retain_409 : decode cX12_retain 409 = .ok (.iload 9, 2) := by decide +kernel
theorem dX12_retain_411 : decode cX12_retain 411 = .ok (.iadd, 1) := by decide +kernel
theorem dX12_retain_412 : decode cX12_retain 412 = .ok (.iaload, 1) := by decide +kernel
theorem dX12_retain_413 : decode cX12_retain 413 = .ok (.iastore, 1) := by decide +kernel
theorem dX12_retain_414 : decode cX12_retain 414 = .ok (.iinc 9 1, 3) := by decide +kernel
theorem dX12_retain_417 : decode cX12_retain 417 = .ok (.goto (-68), 3) := by decide +kernel
theorem dX12_retain_420 : decode cX12_retain 420 = .ok (.aload_n 0, 1) := by decide +kernel
theorem dX12_retain_421 : decode cX12_retain 421 = .ok (.getfield 58, 3) := by decide +kernel
theorem dX12_retain_424 : decode cX12_retain 424 = .ok (.iload_n 1, 1) := by decide +kernel
theorem dX12_retain_425 : decode cX12_retain 425 = .ok (.dup2, 1) := by decide +kernel
theorem dX12_retain_426 : decode cX12_retain 426 = .ok (.iaload, 1) := by decide +kernel
theorem dX12_retain_427 : decode cX12_retain 427 = .ok (.iload 4, 2) := by decide +kernel
theorem dX12_retain_429 : decode cX12_retain 429 = .ok (.isub, 1) := by decide +kernel
theorem dX12_retain_430 : decode cX12_retain 430 = .ok (.iastore, 1) := by decide +kernel
theorem dX12_retain_431 : decode cX12_retain 431 = .ok (.aload_n 0, 1) := by decide +kernel
theorem dX12_retain_432 : decode cX12_retain 432 = .ok (.getfield 286, 3) := by decide +kernel
theorem dX12_retain_435 : decode cX12_retain 435 = .ok (.ifCond .eq 8, 3) := by decide +kernel
theorem dX12_retain_438 : decode cX12_retain 438 = .ok (.bipush (-3), 2) := by decide +kernel
theorem dX12_retain_440 : decode cX12_retain 440 = .ok (.goto 5, 3) := by decide +kernel
theorem dX12_retain_443 : decode cX12_retain 443 = .ok (.iload 4, 2) := by decide +kernel
theorem dX12_retain_445 : decode cX12_retain 445 = .ok (.ireturn, 1) := by decide +kernel
theorem dX12_open_0 : decode cX12_open 0 = .ok (.aload_n 0, 1) := by decide +kernel
theorem dX12_open_1 : decode cX12_open 1 = .ok (.getfield 58, 3) := by decide +kernel
theorem dX12_open_4 : decode cX12_open 4 = .ok (.iload_n 1, 1) := by decide +kernel
theorem dX12_open_5 : decode cX12_open 5 = .ok (.iaload, 1) := by decide +kernel
theorem dX12_open_6 : decode cX12_open 6 = .ok (.ifCond .ne 7, 3) := by decide +kernel
theorem dX12_open_9 : decode cX12_open 9 = .ok (.iconst (-1), 1) := by decide +kernel
theorem dX12_open_10 : decode cX12_open 10 = .ok (.goto 21, 3) := by decide +kernel
theorem dX12_open_13 : decode cX12_open 13 = .ok (.aload_n 0, 1) := by decide +kernel
theorem dX12_open_14 : decode cX12_open 14 = .ok (.getfield 61, 3) := by decide +kernel
theorem dX12_open_17 : decode cX12_open 17 = .ok (.bipush 60, 2) := by decide +kernel
theorem dX12_open_19 : decode cX12_open 19 = .ok (.iload_n 1, 1) := by decide +kernel
theorem dX12_open_20 : decode cX12_open 20 = .ok (.imul, 1) := by decide +kernel
theorem dX12_open_21 : decode cX12_open 21 = .ok (.aload_n 0, 1) := by decide +kernel
theorem dX12_open_22 : decode cX12_open 22 = .ok (.getfield 58, 3) := by decide +kernel
theorem dX12_open_25 : decode cX12_open 25 = .ok (.iload_n 1, 1) := by decide +kernel
theorem dX12_open_26 : decode cX12_open 26 = .ok (.iaload, 1) := by decide +kernel
theorem dX12_open_27 : decode cX12_open 27 = .ok (.iadd, 1) := by decide +kernel
theorem dX12_open_28 : decode cX12_open 28 = .ok (.iconst 1, 1) := by decide +kernel
theorem dX12_open_29 : decode cX12_open 29 = .ok (.isub, 1) := by decide +kernel
theorem dX12_open_30 : decode cX12_open 30 = .ok (.iaload, 1) := by decide +kernel
theorem dX12_open_31 : decode cX12_open 31 = .ok (.ireturn, 1) := by decide +kernel
theorem dX12_isClosed_0 : decode cX12_isClosed 0 = .ok (.aload_n 0, 1) := by decide +kernel
theorem dX12_isClosed_1 : decode cX12_isClosed 1 = .ok (.getfield 33, 3) := by decide +kernel
theorem dX12_isClosed_4 : decode cX12_isClosed 4 = .ok (.iload_n 1, 1) := by decide +kernel
theorem dX12_isClosed_5 : decode cX12_isClosed 5 = .ok (.iaload, 1) := by decide +kernel
theorem dX12_isClosed_6 : decode cX12_isClosed 6 = .ok (.iload_n 2, 1) := by decide +kernel
theorem dX12_isClosed_7 : decode cX12_isClosed 7 = .ok (.if_icmp .ne 21, 3) := by decide +kernel
theorem dX12_isClosed_10 : decode cX12_isClosed 10 = .ok (.aload_n 0, 1) := by decide +kernel
theorem dX12_isClosed_11 : decode cX12_isClosed 11 = .ok (.getfield 42, 3) := by decide +kernel
theorem dX12_isClosed_14 : decode cX12_isClosed 14 = .ok (.iload_n 1, 1) := by decide +kernel
theorem dX12_isClosed_15 : decode cX12_isClosed 15 = .ok (.iaload, 1) := by decide +kernel
theorem dX12_isClosed_16 : decode cX12_isClosed 16 = .ok (.aload_n 0, 1) := by decide +kernel
theorem dX12_isClosed_17 : decode cX12_isClosed 17 = .ok (.iload_n 2, 1) := by decide +kernel
theorem dX12_isClosed_18 : decode cX12_isClosed 18 = .ok (.invokevirtual 395, 3) := by decide +kernel
theorem dX12_isClosed_21 : decode cX12_isClosed 21 = .ok (.if_icmp .eq 7, 3) := by decide +kernel
theorem dX12_isClosed_24 : decode cX12_isClosed 24 = .ok (.iconst 1, 1) := by decide +kernel
theorem dX12_isClosed_25 : decode cX12_isClosed 25 = .ok (.goto 4, 3) := by decide +kernel
theorem dX12_isClosed_28 : decode cX12_isClosed 28 = .ok (.iconst 0, 1) := by decide +kernel
theorem dX12_isClosed_29 : decode cX12_isClosed 29 = .ok (.ireturn, 1) := by decide +kernel
theorem dX12_list_0 : decode cX12_list 0 = .ok (.aload_n 0, 1) := by decide +kernel
theorem dX12_list_1 : decode cX12_list 1 = .ok (.iconst 0, 1) := by decide +kernel
theorem dX12_list_2 : decode cX12_list 2 = .ok (.putfield 398, 3) := by decide +kernel
theorem dX12_list_5 : decode cX12_list 5 = .ok (.iconst 0, 1) := by decide +kernel
theorem dX12_list_6 : decode cX12_list 6 = .ok (.istore_n 2, 1) := by decide +kernel
theorem dX12_list_7 : decode cX12_list 7 = .ok (.iload_n 2, 1) := by decide +kernel
theorem dX12_list_8 : decode cX12_list 8 = .ok (.aload_n 0, 1) := by decide +kernel
theorem dX12_list_9 : decode cX12_list 9 = .ok (.getfield 295, 3) := by decide +kernel
theorem dX12_list_12 : decode cX12_list 12 = .ok (.if_icmp .ge 174, 3) := by decide +kernel
theorem dX12_list_15 : decode cX12_list 15 = .ok (.aload_n 0, 1) := by decide +kernel
theorem dX12_list_16 : decode cX12_list 16 = .ok (.getfield 33, 3) := by decide +kernel
theorem dX12_list_19 : decode cX12_list 19 = .ok (.iload_n 2, 1) := by decide +kernel
theorem dX12_list_20 : decode cX12_list 20 = .ok (.iaload, 1) := by decide +kernel
theorem dX12_list_21 : decode cX12_list 21 = .ok (.iload_n 1, 1) := by decide +kernel
theorem dX12_list_22 : decode cX12_list 22 = .ok (.if_icmp .ne 158, 3) := by decide +kernel
theorem dX12_list_25 : decode cX12_list 25 = .ok (.aload_n 0, 1) := by decide +kernel
theorem dX12_list_26 : decode cX12_list 26 = .ok (.iload_n 2, 1) := by decide +kernel
theorem dX12_list_27 : decode cX12_list 27 = .ok (.invokevirtual 376, 3) := by decide +kernel
theorem dX12_list_30 : decode cX12_list 30 = .ok (.iconst 0, 1) := by decide +kernel
theorem dX12_list_31 : decode cX12_list 31 = .ok (.istore_n 3, 1) := by decide +kernel
theorem dX12_list_32 : decode cX12_list 32 = .ok (.iload_n 3, 1) := by decide +kernel
theorem dX12_list_33 : decode cX12_list 33 = .ok (.aload_n 0, 1) := by decide +kernel
theorem dX12_list_34 : decode cX12_list 34 = .ok (.iload_n 2, 1) := by decide +kernel
theorem dX12_list_35 : decode cX12_list 35 = .ok (.invokevirtual 319, 3) := by decide +kernel
theorem dX12_list_38 : decode cX12_list 38 = .ok (.if_icmp .ge 142, 3) := by decide +kernel
theorem dX12_list_41 : decode cX12_list 41 = .ok (.aload_n 0, 1) := by decide +kernel
theorem dX12_list_42 : decode cX12_list 42 = .ok (.aload_n 0, 1) := by decide +kernel
theorem dX12_list_43 : decode cX12_list 43 = .ok (.iload_n 2, 1) := by decide +kernel
theorem dX12_list_44 : decode cX12_list 44 = .ok (.invokevirtual 379, 3) := by decide +kernel
theorem dX12_list_47 : decode cX12_list 47 = .ok (.invokevirtual 279, 3) := by decide +kernel
theorem dX12_list_50 : decode cX12_list 50 = .ok (.istore 4, 2) := by decide +kernel
theorem dX12_list_52 : decode cX12_list 52 = .ok (.aload_n 0, 1) := by decide +kernel
theorem dX12_list_53 : decode cX12_list 53 = .ok (.getfield 97, 3) := by decide +kernel
theorem dX12_list_56 : decode cX12_list 56 = .ok (.aload_n 0, 1) := by decide +kernel
theorem dX12_list_57 : decode cX12_list 57 = .ok (.getfield 398, 3) := by decide +kernel
theorem dX12_list_60 : decode cX12_list 60 = .ok (.iload_n 2, 1) := by decide +kernel
theorem dX12_list_61 : decode cX12_list 61 = .ok (.iastore, 1) := by decide +kernel
theorem dX12_list_62 : decode cX12_list 62 = .ok (.aload_n 0, 1) := by decide +kernel
theorem dX12_list_63 : decode cX12_list 63 = .ok (.getfield 100, 3) := by decide +kernel
theorem dX12_list_66 : decode cX12_list 66 = .ok (.aload_n 0, 1) := by decide +kernel
theorem dX12_list_67 : decode cX12_list 67 = .ok (.getfield 398, 3) := by decide +kernel
theorem dX12_list_70 : decode cX12_list 70 = .ok (.aload_n 0, 1) := by decide +kernel
theorem dX12_list_71 : decode cX12_list 71 = .ok (.getfield 221, 3) := by decide +kernel
theorem dX12_list_74 : decode cX12_list 74 = .ok (.iastore, 1) := by decide +kernel
theorem dX12_list_75 : decode cX12_list 75 = .ok (.aload_n 0, 1) := by decide +kernel
theorem dX12_list_76 : decode cX12_list 76 = .ok (.getfield 103, 3) := by decide +kernel
theorem dX12_list_79 : decode cX12_list 79 = .ok (.aload_n 0, 1) := by decide +kernel
theorem dX12_list_80 : decode cX12_list 80 = .ok (.getfield 398, 3) := by decide +kernel
theorem dX12_list_83 : decode cX12_list 83 = .ok (.aload_n 0, 1) := by decide +kernel
theorem dX12_list_84 : decode cX12_list 84 = .ok (.getfield 211, 3) := by decide +kernel
theorem dX12_list_87 : decode cX12_list 87 = .ok (.iastore, 1) := by decide +kernel
theorem dX12_list_88 : decode cX12_list 88 = .ok (.aload_n 0, 1) := by decide +kernel
theorem dX12_list_89 : decode cX12_list 89 = .ok (.getfield 106, 3) := by decide +kernel
theorem dX12_list_92 : decode cX12_list 92 = .ok (.aload_n 0, 1) := by decide +kernel
theorem dX12_list_93 : decode cX12_list 93 = .ok (.getfield 398, 3) := by decide +kernel
theorem dX12_list_96 : decode cX12_list 96 = .ok (.aload_n 0, 1) := by decide +kernel
theorem dX12_list_97 : decode cX12_list 97 = .ok (.getfield 242, 3) := by decide +kernel
theorem dX12_list_100 : decode cX12_list 100 = .ok (.iastore, 1) := by decide +kernel
theorem dX12_list_101 : decode cX12_list 101 = .ok (.aload_n 0, 1) := by decide +kernel
theorem dX12_list_102 : decode cX12_list 102 = .ok (.getfield 109, 3) := by decide +kernel
theorem dX12_list_105 : decode cX12_list 105 = .ok (.aload_n 0, 1) := by decide +kernel
theorem dX12_list_106 : decode cX12_list 106 = .ok (.getfield 398, 3) := by decide +kernel
theorem dX12_list_109 : decode cX12_list 109 = .ok (.aload_n 0, 1) := by decide +kernel
theorem dX12_list_110 : decode cX12_list 110 = .ok (.getfield 239, 3) := by decide +kernel
theorem dX12_list_113 : decode cX12_list 113 = .ok (.l2i, 1) := by decide +kernel
theorem dX12_list_114 : decode cX12_list 114 = .ok (.iastore, 1) := by decide +kernel
theorem dX12_list_115 : decode cX12_list 115 = .ok (.aload_n 0, 1) := by decide +kernel
theorem dX12_list_116 : decode cX12_list 116 = .ok (.getfield 112, 3) := by decide +kernel
theorem dX12_list_119 : decode cX12_list 119 = .ok (.aload_n 0, 1) := by decide +kernel
theorem dX12_list_120 : decode cX12_list 120 = .ok (.getfield 398, 3) := by decide +kernel
theorem dX12_list_123 : decode cX12_list 123 = .ok (.aload_n 0, 1) := by decide +kernel
theorem dX12_list_124 : decode cX12_list 124 = .ok (.getfield 239, 3) := by decide +kernel
theorem dX12_list_127 : decode cX12_list 127 = .ok (.lconst 0, 1) := by decide +kernel
theorem dX12_list_128 : decode cX12_list 128 = .ok (.lcmp, 1) := by decide +kernel
theorem dX12_list_129 : decode cX12_list 129 = .ok (.ifCond .lt 33, 3) := by decide +kernel
theorem dX12_list_132 : decode cX12_list 132 = .ok (.aload_n 0, 1) := by decide +kernel
theorem dX12_list_133 : decode cX12_list 133 = .ok (.getfield 245, 3) := by decide +kernel
theorem dX12_list_136 : decode cX12_list 136 = .ok (.lconst 0, 1) := by decide +kernel
theorem dX12_list_137 : decode cX12_list 137 = .ok (.lcmp, 1) := by decide +kernel
theorem dX12_list_138 : decode cX12_list 138 = .ok (.ifCond .ge 24, 3) := by decide +kernel
theorem dX12_list_141 : decode cX12_list 141 = .ok (.aload_n 0, 1) := by decide +kernel
theorem dX12_list_142 : decode cX12_list 142 = .ok (.getfield 227, 3) := by decide +kernel
theorem dX12_list_145 : decode cX12_list 145 = .ok (.aload_n 0, 1) := by decide +kernel
theorem dX12_list_146 : decode cX12_list 146 = .ok (.getfield 401, 3) := by decide +kernel
theorem dX12_list_149 : decode cX12_list 149 = .ok (.sipush 1000, 3) := by decide +kernel
theorem dX12_list_152 : decode cX12_list 152 = .ok (.isub, 1) := by decide +kernel
theorem dX12_list_153 : decode cX12_list 153 = .ok (.i2l, 1) := by decide +kernel
theorem dX12_list_154 : decode cX12_list 154 = .ok (.lcmp, 1) := by decide +kernel
theorem dX12_list_155 : decode cX12_list 155 = .ok (.ifCond .gt 7, 3) := by decide +kernel
theorem dX12_list_158 : decode cX12_list 158 = .ok (.iconst 1, 1) := by decide +kernel
theorem dX12_list_159 : decode cX12_list 159 = .ok (.goto 4, 3) := by decide +kernel
theorem dX12_list_162 : decode cX12_list 162 = .ok (.iconst 0, 1) := by decide +kernel
theorem dX12_list_163 : decode cX12_list 163 = .ok (.bastore, 1) := by decide +kernel
theorem dX12_list_164 : decode cX12_list 164 = .ok (.aload_n 0, 1) := by decide +kernel
theorem dX12_list_165 : decode cX12_list 165 = .ok (.dup, 1) := by decide +kernel
theorem dX12_list_166 : decode cX12_list 166 = .ok (.getfield 398, 3) := by decide +kernel
theorem dX12_list_169 : decode cX12_list 169 = .ok (.iconst 1, 1) := by decide +kernel
theorem dX12_list_170 : decode cX12_list 170 = .ok (.iadd, 1) := by decide +kernel
theorem dX12_list_171 : decode cX12_list 171 = .ok (.putfield 398, 3) := by decide +kernel
theorem dX12_list_174 : decode cX12_list 174 = .ok (.iinc 3 1, 3) := by decide +kernel
theorem dX12_list_177 : decode cX12_list 177 = .ok (.goto (-145), 3) := by decide +kernel
theorem dX12_list_180 : decode cX12_list 180 = .ok (.iinc 2 1, 3) := by decide +kernel
theorem dX12_list_183 : decode cX12_list 183 = .ok (.goto (-176), 3) := by decide +kernel
theorem dX12_list_186 : decode cX12_list 186 = .ok (.return_, 1) := by decide +kernel
theorem dX12_isSameKey_0 : decode cX12_isSameKey 0 = .ok (.aload_n 0, 1) := by decide +kernel
theorem dX12_isSameKey_1 : decode cX12_isSameKey 1 = .ok (.getfield 109, 3) := by decide +kernel
theorem dX12_isSameKey_4 : decode cX12_isSameKey 4 = .ok (.iload_n 1, 1) := by decide +kernel
theorem dX12_isSameKey_5 : decode cX12_isSameKey 5 = .ok (.iaload, 1) := by decide +kernel
theorem dX12_isSameKey_6 : decode cX12_isSameKey 6 = .ok (.aload_n 0, 1) := by decide +kernel
theorem dX12_isSameKey_7 : decode cX12_isSameKey 7 = .ok (.getfield 109, 3) := by decide +kernel
theorem dX12_isSameKey_10 : decode cX12_isSameKey 10 = .ok (.iload_n 2, 1) := by decide +kernel
theorem dX12_isSameKey_11 : decode cX12_isSameKey 11 = .ok (.iaload, 1) := by decide +kernel
theorem dX12_isSameKey_12 : decode cX12_isSameKey 12 = .ok (.if_icmp .ne 7, 3) := by decide +kernel
theorem dX12_isSameKey_15 : decode cX12_isSameKey 15 = .ok (.iconst 1, 1) := by decide +kernel
theorem dX12_isSameKey_16 : decode cX12_isSameKey 16 = .ok (.goto 4, 3) := by decide +kernel
theorem dX12_isSameKey_19 : decode cX12_isSameKey 19 = .ok (.iconst 0, 1) := by decide +kernel
theorem dX12_isSameKey_20 : decode cX12_isSameKey 20 = .ok (.istore_n 3, 1) := by decide +kernel
theorem dX12_isSameKey_21 : decode cX12_isSameKey 21 = .ok (.iconst 0, 1) := by decide +kernel
theorem dX12_isSameKey_22 : decode cX12_isSameKey 22 = .ok (.istore 4, 2) := by decide +kernel
theorem dX12_isSameKey_24 : decode cX12_isSameKey 24 = .ok (.iload 4, 2) := by decide +kernel
theorem dX12_isSameKey_26 : decode cX12_isSameKey 26 = .ok (.aload_n 0, 1) := by decide +kernel
theorem dX12_isSameKey_27 : decode cX12_isSameKey 27 = .ok (.getfield 109, 3) := by decide +kernel
theorem dX12_isSameKey_30 : decode cX12_isSameKey 30 = .ok (.iload_n 1, 1) := by decide +kernel
theorem dX12_isSameKey_31 : decode cX12_isSameKey 31 = .ok (.iaload, 1) := by decide +kernel
theorem dX12_isSameKey_32 : decode cX12_isSameKey 32 = .ok (.if_icmp .ge 50, 3) := by decide +kernel
theorem dX12_isSameKey_35 : decode cX12_isSameKey 35 = .ok (.iload_n 3, 1) := by decide +kernel
theorem dX12_isSameKey_36 : decode cX12_isSameKey 36 = .ok (.ifCond .eq 46, 3) := by decide +kernel
theorem dX12_isSameKey_39 : decode cX12_isSameKey 39 = .ok (.aload_n 0, 1) := by decide +kernel
theorem dX12_isSameKey_40 : decode cX12_isSameKey 40 = .ok (.getfield 46, 3) := by decide +kernel
theorem dX12_isSameKey_43 : decode cX12_isSameKey 43 = .ok (.aload_n 0, 1) := by decide +kernel
theorem dX12_isSameKey_44 : decode cX12_isSameKey 44 = .ok (.getfield 106, 3) := by decide +kernel
theorem dX12_isSameKey_47 : decode cX12_isSameKey 47 = .ok (.iload_n 1, 1) := by decide +kernel
theorem dX12_isSameKey_48 : decode cX12_isSameKey 48 = .ok (.iaload, 1) := by decide +kernel
theorem dX12_isSameKey_49 : decode cX12_isSameKey 49 = .ok (.iload 4, 2) := by decide +kernel
theorem dX12_isSameKey_51 : decode cX12_isSameKey 51 = .ok (.iadd, 1) := by decide +kernel
theorem dX12_isSameKey_52 : decode cX12_isSameKey 52 = .ok (.iaload, 1) := by decide +kernel
theorem dX12_isSameKey_53 : decode cX12_isSameKey 53 = .ok (.aload_n 0, 1) := by decide +kernel
theorem dX12_isSameKey_54 : decode cX12_isSameKey 54 = .ok (.getfield 46, 3) := by decide +kernel
theorem dX12_isSameKey_57 : decode cX12_isSameKey 57 = .ok (.aload_n 0, 1) := by decide +kernel
theorem dX12_isSameKey_58 : decode cX12_isSameKey 58 = .ok (.getfield 106, 3) := by decide +kernel
theorem dX12_isSameKey_61 : decode cX12_isSameKey 61 = .ok (.iload_n 2, 1) := by decide +kernel
theorem dX12_isSameKey_62 : decode cX12_isSameKey 62 = .ok (.iaload, 1) := by decide +kernel
theorem dX12_isSameKey_63 : decode cX12_isSameKey 63 = .ok (.iload 4, 2) := by decide +kernel
theorem dX12_isSameKey_65 : decode cX12_isSameKey 65 = .ok (.iadd, 1) := by decide +kernel
theorem dX12_isSameKey_66 : decode cX12_isSameKey 66 = .ok (.iaload, 1) := by decide +kernel
theorem dX12_isSameKey_67 : decode cX12_isSameKey 67 = .ok (.if_icmp .ne 7, 3) := by decide +kernel
theorem dX12_isSameKey_70 : decode cX12_isSameKey 70 = .ok (.iconst 1, 1) := by decide +kernel
theorem dX12_isSameKey_71 : decode cX12_isSameKey 71 = .ok (.goto 4, 3) := by decide +kernel
theorem dX12_isSameKey_74 : decode cX12_isSameKey 74 = .ok (.iconst 0, 1) := by decide +kernel
theorem dX12_isSameKey_75 : decode cX12_isSameKey 75 = .ok (.istore_n 3, 1) := by decide +kernel
theorem dX12_isSameKey_76 : decode cX12_isSameKey 76 = .ok (.iinc 4 1, 3) := by decide +kernel
theorem dX12_isSameKey_79 : decode cX12_isSameKey 79 = .ok (.goto (-55), 3) := by decide +kernel
theorem dX12_isSameKey_82 : decode cX12_isSameKey 82 = .ok (.iload_n 3, 1) := by decide +kernel
theorem dX12_isSameKey_83 : decode cX12_isSameKey 83 = .ok (.ireturn, 1) := by decide +kernel
theorem dX12_judge_0 : decode cX12_judge 0 = .ok (.iconst 0, 1) := by decide +kernel
theorem dX12_judge_1 : decode cX12_judge 1 = .ok (.istore_n 2, 1) := by decide +kernel
theorem dX12_judge_2 : decode cX12_judge 2 = .ok (.iload_n 2, 1) := by decide +kernel
theorem dX12_judge_3 : decode cX12_judge 3 = .ok (.sipush 4096, 3) := by decide +kernel
theorem dX12_judge_6 : decode cX12_judge 6 = .ok (.if_icmp .ge 16, 3) := by decide +kernel
theorem dX12_judge_9 : decode cX12_judge 9 = .ok (.aload_n 0, 1) := by decide +kernel
theorem dX12_judge_10 : decode cX12_judge 10 = .ok (.getfield 115, 3) := by decide +kernel
theorem dX12_judge_13 : decode cX12_judge 13 = .ok (.iload_n 2, 1) := by decide +kernel
theorem dX12_judge_14 : decode cX12_judge 14 = .ok (.iconst (-1), 1) := by decide +kernel
theorem dX12_judge_15 : decode cX12_judge 15 = .ok (.iastore, 1) := by decide +kernel
theorem dX12_judge_16 : decode cX12_judge 16 = .ok (.iinc 2 1, 3) := by decide +kernel
theorem dX12_judge_19 : decode cX12_judge 19 = .ok (.goto (-17), 3) := by decide +kernel
theorem dX12_judge_22 : decode cX12_judge 22 = .ok (.aload_n 0, 1) := by decide +kernel
theorem dX12_judge_23 : decode cX12_judge 23 = .ok (.getfield 398, 3) := by decide +kernel
theorem dX12_judge_26 : decode cX12_judge 26 = .ok (.iconst 1, 1) := by decide +kernel
theorem dX12_judge_27 : decode cX12_judge 27 = .ok (.isub, 1) := by decide +kernel
theorem dX12_judge_28 : decode cX12_judge 28 = .ok (.istore_n 2, 1) := by decide +kernel
theorem dX12_judge_29 : decode cX12_judge 29 = .ok (.iload_n 2, 1) := by decide +kernel
theorem dX12_judge_30 : decode cX12_judge 30 = .ok (.ifCond .lt 194, 3) := by decide +kernel
theorem dX12_judge_33 : decode cX12_judge 33 = .ok (.aload_n 0, 1) := by decide +kernel
theorem dX12_judge_34 : decode cX12_judge 34 = .ok (.getfield 109, 3) := by decide +kernel
theorem dX12_judge_37 : decode cX12_judge 37 = .ok (.iload_n 2, 1) := by decide +kernel
theorem dX12_judge_38 : decode cX12_judge 38 = .ok (.iaload, 1) := by decide +kernel
theorem dX12_judge_39 : decode cX12_judge 39 = .ok (.ifCond .lt 145, 3) := by decide +kernel
theorem dX12_judge_42 : decode cX12_judge 42 = .ok (.aload_n 0, 1) := by decide +kernel
theorem dX12_judge_43 : decode cX12_judge 43 = .ok (.getfield 109, 3) := by decide +kernel
theorem dX12_judge_46 : decode cX12_judge 46 = .ok (.iload_n 2, 1) := by decide +kernel
theorem dX12_judge_47 : decode cX12_judge 47 = .ok (.iaload, 1) := by decide +kernel
theorem dX12_judge_48 : decode cX12_judge 48 = .ok (.istore_n 3, 1) := by decide +kernel
theorem dX12_judge_49 : decode cX12_judge 49 = .ok (.iconst 0, 1) := by decide +kernel
theorem dX12_judge_50 : decode cX12_judge 50 = .ok (.istore 4, 2) := by decide +kernel
theorem dX12_judge_52 : decode cX12_judge 52 = .ok (.iload 4, 2) := by decide +kernel
theorem dX12_judge_54 : decode cX12_judge 54 = .ok (.aload_n 0, 1) := by decide +kernel
theorem dX12_judge_55 : decode cX12_judge 55 = .ok (.getfield 109, 3) := by decide +kernel
theorem dX12_judge_58 : decode cX12_judge 58 = .ok (.iload_n 2, 1) := by decide +kernel
theorem dX12_judge_59 : decode cX12_judge 59 = .ok (.iaload, 1) := by decide +kernel
theorem dX12_judge_60 : decode cX12_judge 60 = .ok (.if_icmp .ge 29, 3) := by decide +kernel
theorem dX12_judge_63 : decode cX12_judge 63 = .ok (.bipush 31, 2) := by decide +kernel
theorem dX12_judge_65 : decode cX12_judge 65 = .ok (.iload_n 3, 1) := by decide +kernel
theorem dX12_judge_66 : decode cX12_judge 66 = .ok (.imul, 1) := by decide +kernel
theorem dX12_judge_67 : decode cX12_judge 67 = .ok (.aload_n 0, 1) := by decide +kernel
theorem dX12_judge_68 : decode cX12_judge 68 = .ok (.getfield 46, 3) := by decide +kernel
theorem dX12_judge_71 : decode cX12_judge 71 = .ok (.aload_n 0, 1) := by decide +kernel
theorem dX12_judge_72 : decode cX12_judge 72 = .ok (.getfield 106, 3) := by decide +kernel
theorem dX12_judge_75 : decode cX12_judge 75 = .ok (.iload_n 2, 1) := by decide +kernel
theorem dX12_judge_76 : decode cX12_judge 76 = .ok (.iaload, 1) := by decide +kernel
theorem dX12_judge_77 : decode cX12_judge 77 = .ok (.iload 4, 2) := by decide +kernel
theorem dX12_judge_79 : decode cX12_judge 79 = .ok (.iadd, 1) := by decide +kernel
theorem dX12_judge_80 : decode cX12_judge 80 = .ok (.iaload, 1) := by decide +kernel
theorem dX12_judge_81 : decode cX12_judge 81 = .ok (.iadd, 1) := by decide +kernel
theorem dX12_judge_82 : decode cX12_judge 82 = .ok (.istore_n 3, 1) := by decide +kernel
theorem dX12_judge_83 : decode cX12_judge 83 = .ok (.iinc 4 1, 3) := by decide +kernel
theorem dX12_judge_86 : decode cX12_judge 86 = .ok (.goto (-34), 3) := by decide +kernel
theorem dX12_judge_89 : decode cX12_judge 89 = .ok (.iload_n 3, 1) := by decide +kernel
theorem dX12_judge_90 : decode cX12_judge 90 = .ok (.iload_n 3, 1) := by decide +kernel
theorem dX12_judge_91 : decode cX12_judge 91 = .ok (.bipush 12, 2) := by decide +kernel
theorem dX12_judge_93 : decode cX12_judge 93 = .ok (.iushr, 1) := by decide +kernel
theorem dX12_judge_94 : decode cX12_judge 94 = .ok (.ixor, 1) := by decide +kernel
theorem dX12_judge_95 : decode cX12_judge 95 = .ok (.sipush 4095, 3) := by decide +kernel
theorem dX12_judge_98 : decode cX12_judge 98 = .ok (.iand, 1) := by decide +kernel
theorem dX12_judge_99 : decode cX12_judge 99 = .ok (.istore_n 3, 1) := by decide +kernel
theorem dX12_judge_100 : decode cX12_judge 100 = .ok (.aload_n 0, 1) := by decide +kernel
theorem dX12_judge_101 : decode cX12_judge 101 = .ok (.getfield 115, 3) := by decide +kernel
theorem dX12_judge_104 : decode cX12_judge 104 = .ok (.iload_n 3, 1) := by decide +kernel
theorem dX12_judge_105 : decode cX12_judge 105 = .ok (.iaload, 1) := by decide +kernel
theorem dX12_judge_106 : decode cX12_judge 106 = .ok (.istore 4, 2) := by decide +kernel
theorem dX12_judge_108 : decode cX12_judge 108 = .ok (.iload 4, 2) := by decide +kernel
theorem dX12_judge_110 : decode cX12_judge 110 = .ok (.ifCond .lt 25, 3) := by decide +kernel
theorem dX12_judge_113 : decode cX12_judge 113 = .ok (.aload_n 0, 1) := by decide +kernel
theorem dX12_judge_114 : decode cX12_judge 114 = .ok (.iload_n 2, 1) := by decide +kernel
theorem dX12_judge_115 : decode cX12_judge 115 = .ok (.iload 4, 2) := by decide +kernel
theorem dX12_judge_117 : decode cX12_judge 117 = .ok (.invokevirtual 404, 3) := by decide +kernel
theorem dX12_judge_120 : decode cX12_judge 120 = .ok (.ifCond .ne 15, 3) := by decide +kernel
theorem dX12_judge_123 : decode cX12_judge 123 = .ok (.aload_n 0, 1) := by decide +kernel
theorem dX12_judge_124 : decode cX12_judge 124 = .ok (.getfield 118, 3) := by decide +kernel
theorem dX12_judge_127 : decode cX12_judge 127 = .ok (.iload 4, 2) := by decide +kernel
theorem dX12_judge_129 : decode cX12_judge 129 = .ok (.iaload, 1) := by decide +kernel
theorem dX12_judge_130 : decode cX12_judge 130 = .ok (.istore 4, 2) := by decide +kernel
theorem dX12_judge_132 : decode cX12_judge 132 = .ok (.goto (-24), 3) := by decide +kernel
theorem dX12_judge_135 : decode cX12_judge 135 = .ok (.aload_n 0, 1) := by decide +kernel
theorem dX12_judge_136 : decode cX12_judge 136 = .ok (.getfield 112, 3) := by decide +kernel
theorem dX12_judge_139 : decode cX12_judge 139 = .ok (.iload_n 2, 1) := by decide +kernel
theorem dX12_judge_140 : decode cX12_judge 140 = .ok (.aload_n 0, 1) := by decide +kernel
theorem dX12_judge_141 : decode cX12_judge 141 = .ok (.getfield 112, 3) := by decide +kernel
theorem dX12_judge_144 : decode cX12_judge 144 = .ok (.iload_n 2, 1) := by decide +kernel
theorem dX12_judge_145 : decode cX12_judge 145 = .ok (.baload, 1) := by decide +kernel
theorem dX12_judge_146 : decode cX12_judge 146 = .ok (.ifCond .ne 8, 3) := by decide +kernel
theorem dX12_judge_149 : decode cX12_judge 149 = .ok (.iload 4, 2) := by decide +kernel
theorem dX12_judge_151 : decode cX12_judge 151 = .ok (.ifCond .lt 7, 3) := by decide +kernel
theorem dX12_judge_154 : decode cX12_judge 154 = .ok (.iconst 1, 1) := by decide +kernel
theorem dX12_judge_155 : decode cX12_judge 155 = .ok (.goto 4, 3) := by decide +kernel
theorem dX12_judge_158 : decode cX12_judge 158 = .ok (.iconst 0, 1) := by decide +kernel
theorem dX12_judge_159 : decode cX12_judge 159 = .ok (.bastore, 1) := by decide +kernel
theorem dX12_judge_160 : decode cX12_judge 160 = .ok (.iload 4, 2) := by decide +kernel
theorem dX12_judge_162 : decode cX12_judge 162 = .ok (.ifCond .ge 22, 3) := by decide +kernel
theorem dX12_judge_165 : decode cX12_judge 165 = .ok (.aload_n 0, 1) := by decide +kernel
theorem dX12_judge_166 : decode cX12_judge 166 = .ok (.getfield 118, 3) := by decide +kernel
theorem dX12_judge_169 : decode cX12_judge 169 = .ok (.iload_n 2, 1) := by decide +kernel
theorem dX12_judge_170 : decode cX12_judge 170 = .ok (.aload_n 0, 1) := by decide +kernel
theorem dX12_judge_171 : decode cX12_judge 171 = .ok (.getfield 115, 3) := by decide +kernel
theorem dX12_judge_174 : decode cX12_judge 174 = .ok (.iload_n 3, 1) := by decide +kernel
theorem dX12_judge_175 : decode cX12_judge 175 = .ok (.iaload, 1) := by decide +kernel
theorem dX12_judge_176 : decode cX12_judge 176 = .ok (.iastore, 1) := by decide +kernel
theorem dX12_judge_177 : decode cX12_judge 177 = .ok (.aload_n 0, 1) := by decide +kernel
theorem dX12_judge_178 : decode cX12_judge 178 = .ok (.getfield 115, 3) := by decide +kernel
theorem dX12_judge_181 : decode cX12_judge 181 = .ok (.iload_n 3, 1) := by decide +kernel
theorem dX12_judge_182 : decode cX12_judge 182 = .ok (.iload_n 2, 1) := by decide +kernel
theorem dX12_judge_183 : decode cX12_judge 183 = .ok (.iastore, 1) := by decide +kernel
theorem dX12_judge_184 : decode cX12_judge 184 = .ok (.aload_n 0, 1) := by decide +kernel
theorem dX12_judge_185 : decode cX12_judge 185 = .ok (.getfield 112, 3) := by decide +kernel
theorem dX12_judge_188 : decode cX12_judge 188 = .ok (.iload_n 2, 1) := by decide +kernel
theorem dX12_judge_189 : decode cX12_judge 189 = .ok (.aload_n 0, 1) := by decide +kernel
theorem dX12_judge_190 : decode cX12_judge 190 = .ok (.getfield 112, 3) := by decide +kernel
theorem dX12_judge_193 : decode cX12_judge 193 = .ok (.iload_n 2, 1) := by decide +kernel
theorem dX12_judge_194 : decode cX12_judge 194 = .ok (.baload, 1) := by decide +kernel
theorem dX12_judge_195 : decode cX12_judge 195 = .ok (.ifCond .eq 21, 3) := by decide +kernel
theorem dX12_judge_198 : decode cX12_judge 198 = .ok (.aload_n 0, 1) := by decide +kernel
theorem dX12_judge_199 : decode cX12_judge 199 = .ok (.aload_n 0, 1) := by decide +kernel
theorem dX12_judge_200 : decode cX12_judge 200 = .ok (.getfield 97, 3) := by decide +kernel
theorem dX12_judge_203 : decode cX12_judge 203 = .ok (.iload_n 2, 1) := by decide +kernel
theorem dX12_judge_204 : decode cX12_judge 204 = .ok (.iaload, 1) := by decide +kernel
theorem dX12_judge_205 : decode cX12_judge 205 = .ok (.iload_n 1, 1) := by decide +kernel
theorem dX12_judge_206 : decode cX12_judge 206 = .ok (.invokevirtual 408, 3) := by decide +kernel
theorem dX12_judge_209 : decode cX12_judge 209 = .ok (.ifCond .eq 7, 3) := by decide +kernel
theorem dX12_judge_212 : decode cX12_judge 212 = .ok (.iconst 1, 1) := by decide +kernel
theorem dX12_judge_213 : decode cX12_judge 213 = .ok (.goto 4, 3) := by decide +kernel
theorem dX12_judge_216 : decode cX12_judge 216 = .ok (.iconst 0, 1) := by decide +kernel
theorem dX12_judge_217 : decode cX12_judge 217 = .ok (.bastore, 1) := by decide +kernel
theorem dX12_judge_218 : decode cX12_judge 218 = .ok (.iinc 2 (-1), 3) := by decide +kernel
theorem dX12_judge_221 : decode cX12_judge 221 = .ok (.goto (-192), 3) := by decide +kernel
theorem dX12_judge_224 : decode cX12_judge 224 = .ok (.return_, 1) := by decide +kernel
theorem dX12_isKnown_0 : decode cX12_isKnown 0 = .ok (.iconst 0, 1) := by decide +kernel
theorem dX12_isKnown_1 : decode cX12_isKnown 1 = .ok (.istore_n 2, 1) := by decide +kernel
theorem dX12_isKnown_2 : decode cX12_isKnown 2 = .ok (.iconst 0, 1) := by decide +kernel
theorem dX12_isKnown_3 : decode cX12_isKnown 3 = .ok (.istore_n 3, 1) := by decide +kernel
theorem dX12_isKnown_4 : decode cX12_isKnown 4 = .ok (.iload_n 3, 1) := by decide +kernel
theorem dX12_isKnown_5 : decode cX12_isKnown 5 = .ok (.iconst 5, 1) := by decide +kernel
theorem dX12_isKnown_6 : decode cX12_isKnown 6 = .ok (.if_icmp .ge 39, 3) := by decide +kernel
theorem dX12_isKnown_9 : decode cX12_isKnown 9 = .ok (.iload_n 2, 1) := by decide +kernel
theorem dX12_isKnown_10 : decode cX12_isKnown 10 = .ok (.ifCond .ne 23, 3) := by decide +kernel
theorem dX12_isKnown_13 : decode cX12_isKnown 13 = .ok (.aload_n 0, 1) := by decide +kernel
theorem dX12_isKnown_14 : decode cX12_isKnown 14 = .ok (.aload_n 0, 1) := by decide +kernel
theorem dX12_isKnown_15 : decode cX12_isKnown 15 = .ok (.getfield 33, 3) := by decide +kernel
theorem dX12_isKnown_18 : decode cX12_isKnown 18 = .ok (.iload_n 1, 1) := by decide +kernel
theorem dX12_isKnown_19 : decode cX12_isKnown 19 = .ok (.iaload, 1) := by decide +kernel
theorem dX12_isKnown_20 : decode cX12_isKnown 20 = .ok (.aload_n 0, 1) := by decide +kernel
theorem dX12_isKnown_21 : decode cX12_isKnown 21 = .ok (.iload_n 1, 1) := by decide +kernel
theorem dX12_isKnown_22 : decode cX12_isKnown 22 = .ok (.invokevirtual 322, 3) := by decide +kernel
theorem dX12_isKnown_25 : decode cX12_isKnown 25 = .ok (.iload_n 3, 1) := by decide +kernel
theorem dX12_isKnown_26 : decode cX12_isKnown 26 = .ok (.invokevirtual 328, 3) := by decide +kernel
theorem dX12_isKnown_29 : decode cX12_isKnown 29 = .ok (.iload_n 1, 1) := by decide +kernel
theorem dX12_isKnown_30 : decode cX12_isKnown 30 = .ok (.if_icmp .ne 7, 3) := by decide +kernel
theorem dX12_isKnown_33 : decode cX12_isKnown 33 = .ok (.iconst 1, 1) := by decide +kernel
theorem dX12_isKnown_34 : decode cX12_isKnown 34 = .ok (.goto 4, 3) := by decide +kernel
theorem dX12_isKnown_37 : decode cX12_isKnown 37 = .ok (.iconst 0, 1) := by decide +kernel
theorem dX12_isKnown_38 : decode cX12_isKnown 38 = .ok (.istore_n 2, 1) := by decide +kernel
theorem dX12_isKnown_39 : decode cX12_isKnown 39 = .ok (.iinc 3 1, 3) := by decide +kernel
theorem dX12_isKnown_42 : decode cX12_isKnown 42 = .ok (.goto (-38), 3) := by decide +kernel
theorem dX12_isKnown_45 : decode cX12_isKnown 45 = .ok (.iload_n 2, 1) := by decide +kernel
theorem dX12_isKnown_46 : decode cX12_isKnown 46 = .ok (.ireturn, 1) := by decide +kernel
theorem dX12_strip_0 : decode cX12_strip 0 = .ok (.aload_n 0, 1) := by decide +kernel
theorem dX12_strip_1 : decode cX12_strip 1 = .ok (.getfield 121, 3) := by decide +kernel
theorem dX12_strip_4 : decode cX12_strip 4 = .ok (.iload_n 1, 1) := by decide +kernel
theorem dX12_strip_5 : decode cX12_strip 5 = .ok (.aload_n 0, 1) := by decide +kernel
theorem dX12_strip_6 : decode cX12_strip 6 = .ok (.getfield 298, 3) := by decide +kernel
theorem dX12_strip_9 : decode cX12_strip 9 = .ok (.iastore, 1) := by decide +kernel
theorem dX12_strip_10 : decode cX12_strip 10 = .ok (.iconst 0, 1) := by decide +kernel
theorem dX12_strip_11 : decode cX12_strip 11 = .ok (.istore_n 3, 1) := by decide +kernel
theorem dX12_strip_12 : decode cX12_strip 12 = .ok (.iload_n 3, 1) := by decide +kernel
theorem dX12_strip_13 : decode cX12_strip 13 = .ok (.bipush 61, 2) := by decide +kernel
theorem dX12_strip_15 : decode cX12_strip 15 = .ok (.if_icmp .ge 33, 3) := by decide +kernel
theorem dX12_strip_18 : decode cX12_strip 18 = .ok (.aload_n 0, 1) := by decide +kernel
theorem dX12_strip_19 : decode cX12_strip 19 = .ok (.getfield 46, 3) := by decide +kernel
theorem dX12_strip_22 : decode cX12_strip 22 = .ok (.aload_n 0, 1) := by decide +kernel
theorem dX12_strip_23 : decode cX12_strip 23 = .ok (.getfield 298, 3) := by decide +kernel
theorem dX12_strip_26 : decode cX12_strip 26 = .ok (.iload_n 3, 1) := by decide +kernel
theorem dX12_strip_27 : decode cX12_strip 27 = .ok (.iadd, 1) := by decide +kernel
theorem dX12_strip_28 : decode cX12_strip 28 = .ok (.aload_n 0, 1) := by decide +kernel
theorem dX12_strip_29 : decode cX12_strip 29 = .ok (.getfield 46, 3) := by decide +kernel
theorem dX12_strip_32 : decode cX12_strip 32 = .ok (.aload_n 0, 1) := by decide +kernel
theorem dX12_strip_33 : decode cX12_strip 33 = .ok (.getfield 36, 3) := by decide +kernel
theorem dX12_strip_36 : decode cX12_strip 36 = .ok (.iload_n 1, 1) := by decide +kernel
theorem dX12_strip_37 : decode cX12_strip 37 = .ok (.iaload, 1) := by decide +kernel
theorem dX12_strip_38 : decode cX12_strip 38 = .ok (.iload_n 3, 1) := by decide +kernel
theorem dX12_strip_39 : decode cX12_strip 39 = .ok (.iadd, 1) := by decide +kernel
theorem dX12_strip_40 : decode cX12_strip 40 = .ok (.iaload, 1) := by decide +kernel
theorem dX12_strip_41 : decode cX12_strip 41 = .ok (.iastore, 1) := by decide +kernel
theorem dX12_strip_42 : decode cX12_strip 42 = .ok (.iinc 3 1, 3) := by decide +kernel
theorem dX12_strip_45 : decode cX12_strip 45 = .ok (.goto (-33), 3) := by decide +kernel
theorem dX12_strip_48 : decode cX12_strip 48 = .ok (.aload_n 0, 1) := by decide +kernel
theorem dX12_strip_49 : decode cX12_strip 49 = .ok (.dup, 1) := by decide +kernel
theorem dX12_strip_50 : decode cX12_strip 50 = .ok (.getfield 298, 3) := by decide +kernel
theorem dX12_strip_53 : decode cX12_strip 53 = .ok (.bipush 61, 2) := by decide +kernel
theorem dX12_strip_55 : decode cX12_strip 55 = .ok (.iadd, 1) := by decide +kernel
theorem dX12_strip_56 : decode cX12_strip 56 = .ok (.putfield 298, 3) := by decide +kernel
theorem dX12_strip_59 : decode cX12_strip 59 = .ok (.iconst 0, 1) := by decide +kernel
theorem dX12_strip_60 : decode cX12_strip 60 = .ok (.istore_n 3, 1) := by decide +kernel
theorem dX12_strip_61 : decode cX12_strip 61 = .ok (.lconst 0, 1) := by decide +kernel
theorem dX12_strip_62 : decode cX12_strip 62 = .ok (.lstore 4, 2) := by decide +kernel
theorem dX12_strip_64 : decode cX12_strip 64 = .ok (.iload_n 2, 1) := by decide +kernel
theorem dX12_strip_65 : decode cX12_strip 65 = .ok (.istore 6, 2) := by decide +kernel
theorem dX12_strip_67 : decode cX12_strip 67 = .ok (.iload 6, 2) := by decide +kernel
theorem dX12_strip_69 : decode cX12_strip 69 = .ok (.aload_n 0, 1) := by decide +kernel
theorem dX12_strip_70 : decode cX12_strip 70 = .ok (.getfield 398, 3) := by decide +kernel
theorem dX12_strip_73 : decode cX12_strip 73 = .ok (.if_icmp .ge 140, 3) := by decide +kernel
theorem dX12_strip_76 : decode cX12_strip 76 = .ok (.aload_n 0, 1) := by decide +kernel
theorem dX12_strip_77 : decode cX12_strip 77 = .ok (.getfield 97, 3) := by decide +kernel
theorem dX12_strip_80 : decode cX12_strip 80 = .ok (.iload 6, 2) := by decide +kernel
theorem dX12_strip_82 : decode cX12_strip 82 = .ok (.iaload, 1) := by decide +kernel
theorem dX12_strip_83 : decode cX12_strip 83 = .ok (.iload_n 1, 1) := by decide +kernel
theorem dX12_strip_84 : decode cX12_strip 84 = .ok (.if_icmp .ne 129, 3) := by decide +kernel
theorem dX12_strip_87 : decode cX12_strip 87 = .ok (.aload_n 0, 1) := by decide +kernel
theorem dX12_strip_88 : decode cX12_strip 88 = .ok (.getfield 112, 3) := by decide +kernel
theorem dX12_strip_91 : decode cX12_strip 91 = .ok (.iload 6, 2) := by decide +kernel
theorem dX12_strip_93 : decode cX12_strip 93 = .ok (.baload, 1) := by decide +kernel
theorem dX12_strip_94 : decode cX12_strip 94 = .ok (.ifCond .ne 113, 3) := by decide +kernel
theorem dX12_strip_97 : decode cX12_strip 97 = .ok (.aload_n 0, 1) := by decide +kernel
theorem dX12_strip_98 : decode cX12_strip 98 = .ok (.aload_n 0, 1) := by decide +kernel
theorem dX12_strip_99 : decode cX12_strip 99 = .ok (.getfield 46, 3) := by decide +kernel
theorem dX12_strip_102 : decode cX12_strip 102 = .ok (.aload_n 0, 1) := by decide +kernel
theorem dX12_strip_103 : decode cX12_strip 103 = .ok (.getfield 100, 3) := by decide +kernel
theorem dX12_strip_106 : decode cX12_strip 106 = .ok (.iload 6, 2) := by decide +kernel
theorem dX12_strip_108 : decode cX12_strip 108 = .ok (.iaload, 1) := by decide +kernel
theorem dX12_strip_109 : decode cX12_strip 109 = .ok (.aload_n 0, 1) := by decide +kernel
theorem dX12_strip_110 : decode cX12_strip 110 = .ok (.getfield 103, 3) := by decide +kernel
theorem dX12_strip_113 : decode cX12_strip 113 = .ok (.iload 6, 2) := by decide +kernel
theorem dX12_strip_115 : decode cX12_strip 115 = .ok (.iaload, 1) := by decide +kernel
theorem dX12_strip_116 : decode cX12_strip 116 = .ok (.invokevirtual 275, 3) := by decide +kernel
theorem dX12_strip_119 : decode cX12_strip 119 = .ok (.aload_n 0, 1) := by decide +kernel
theorem dX12_strip_120 : decode cX12_strip 120 = .ok (.aload_n 0, 1) := by decide +kernel
theorem dX12_strip_121 : decode cX12_strip 121 = .ok (.iload_n 1, 1) := by decide +kernel
theorem dX12_strip_122 : decode cX12_strip 122 = .ok (.invokevirtual 379, 3) := by decide +kernel
theorem dX12_strip_125 : decode cX12_strip 125 = .ok (.invokevirtual 279, 3) := by decide +kernel
theorem dX12_strip_128 : decode cX12_strip 128 = .ok (.istore 7, 2) := by decide +kernel
theorem dX12_strip_130 : decode cX12_strip 130 = .ok (.aload_n 0, 1) := by decide +kernel
theorem dX12_strip_131 : decode cX12_strip 131 = .ok (.getfield 227, 3) := by decide +kernel
theorem dX12_strip_134 : decode cX12_strip 134 = .ok (.lload 4, 2) := by decide +kernel
theorem dX12_strip_136 : decode cX12_strip 136 = .ok (.lcmp, 1) := by decide +kernel
theorem dX12_strip_137 : decode cX12_strip 137 = .ok (.ifCond .le 10, 3) := by decide +kernel
theorem dX12_strip_140 : decode cX12_strip 140 = .ok (.aload_n 0, 1) := by decide +kernel
theorem dX12_strip_141 : decode cX12_strip 141 = .ok (.getfield 227, 3) := by decide +kernel
theorem dX12_strip_144 : decode cX12_strip 144 = .ok (.goto 5, 3) := by decide +kernel
theorem dX12_strip_147 : decode cX12_strip 147 = .ok (.lload 4, 2) := by decide +kernel
theorem dX12_strip_149 : decode cX12_strip 149 = .ok (.lstore 4, 2) := by decide +kernel
theorem dX12_strip_151 : decode cX12_strip 151 = .ok (.aload_n 0, 1) := by decide +kernel
theorem dX12_strip_152 : decode cX12_strip 152 = .ok (.getfield 100, 3) := by decide +kernel
theorem dX12_strip_155 : decode cX12_strip 155 = .ok (.iload 6, 2) := by decide +kernel
theorem dX12_strip_157 : decode cX12_strip 157 = .ok (.iaload, 1) := by decide +kernel
theorem dX12_strip_158 : decode cX12_strip 158 = .ok (.istore 8, 2) := by decide +kernel
theorem dX12_strip_160 : decode cX12_strip 160 = .ok (.iload 8, 2) := by decide +kernel
theorem dX12_strip_162 : decode cX12_strip 162 = .ok (.aload_n 0, 1) := by decide +kernel
theorem dX12_strip_163 : decode cX12_strip 163 = .ok (.getfield 103, 3) := by decide +kernel
theorem dX12_strip_166 : decode cX12_strip 166 = .ok (.iload 6, 2) := by decide +kernel
theorem dX12_strip_168 : decode cX12_strip 168 = .ok (.iaload, 1) := by decide +kernel
theorem dX12_strip_169 : decode cX12_strip 169 = .ok (.if_icmp .ge 35, 3) := by decide +kernel
theorem dX12_strip_172 : decode cX12_strip 172 = .ok (.aload_n 0, 1) := by decide +kernel
theorem dX12_strip_173 : decode cX12_strip 173 = .ok (.getfield 46, 3) := by decide +kernel
theorem dX12_strip_176 : decode cX12_strip 176 = .ok (.aload_n 0, 1) := by decide +kernel
theorem dX12_strip_177 : decode cX12_strip 177 = .ok (.getfield 298, 3) := by decide +kernel
theorem dX12_strip_180 : decode cX12_strip 180 = .ok (.aload_n 0, 1) := by decide +kernel
theorem dX12_strip_181 : decode cX12_strip 181 = .ok (.getfield 46, 3) := by decide +kernel
theorem dX12_strip_184 : decode cX12_strip 184 = .ok (.iload 8, 2) := by decide +kernel
theorem dX12_strip_186 : decode cX12_strip 186 = .ok (.iaload, 1) := by decide +kernel
theorem dX12_strip_187 : decode cX12_strip 187 = .ok (.iastore, 1) := by decide +kernel
theorem dX12_strip_188 : decode cX12_strip 188 = .ok (.aload_n 0, 1) := by decide +kernel
theorem dX12_strip_189 : decode cX12_strip 189 = .ok (.dup, 1) := by decide +kernel
theorem dX12_strip_190 : decode cX12_strip 190 = .ok (.getfield 298, 3) := by decide +kernel
theorem dX12_strip_193 : decode cX12_strip 193 = .ok (.iconst 1, 1) := by decide +kernel
theorem dX12_strip_194 : decode cX12_strip 194 = .ok (.iadd, 1) := by decide +kernel
theorem dX12_strip_195 : decode cX12_strip 195 = .ok (.putfield 298, 3) := by decide +kernel
theorem dX12_strip_198 : decode cX12_strip 198 = .ok (.iinc 8 1, 3) := by decide +kernel
theorem dX12_strip_201 : decode cX12_strip 201 = .ok (.goto (-41), 3) := by decide +kernel
theorem dX12_strip_204 : decode cX12_strip 204 = .ok (.iinc 3 1, 3) := by decide +kernel
theorem dX12_strip_207 : decode cX12_strip 207 = .ok (.iinc 6 1, 3) := by decide +kernel
theorem dX12_strip_210 : decode cX12_strip 210 = .ok (.goto (-143), 3) := by decide +kernel
theorem dX12_strip_213 : decode cX12_strip 213 = .ok (.aload_n 0, 1) := by decide +kernel
theorem dX12_strip_214 : decode cX12_strip 214 = .ok (.getfield 124, 3) := by decide +kernel
theorem dX12_strip_217 : decode cX12_strip 217 = .ok (.iload_n 1, 1) := by decide +kernel
theorem dX12_strip_218 : decode cX12_strip 218 = .ok (.aload_n 0, 1) := by decide +kernel
theorem dX12_strip_219 : decode cX12_strip 219 = .ok (.getfield 298, 3) := by decide +kernel
theorem dX12_strip_222 : decode cX12_strip 222 = .ok (.aload_n 0, 1) := by decide +kernel
theorem dX12_strip_223 : decode cX12_strip 223 = .ok (.getfield 121, 3) := by decide +kernel
theorem dX12_strip_226 : decode cX12_strip 226 = .ok (.iload_n 1, 1) := by decide +kernel
theorem dX12_strip_227 : decode cX12_strip 227 = .ok (.iaload, 1) := by decide +kernel
theorem dX12_strip_228 : decode cX12_strip 228 = .ok (.isub, 1) := by decide +kernel
theorem dX12_strip_229 : decode cX12_strip 229 = .ok (.iastore, 1) := by decide +kernel
theorem dX12_strip_230 : decode cX12_strip 230 = .ok (.aload_n 0, 1) := by decide +kernel
theorem dX12_strip_231 : decode cX12_strip 231 = .ok (.getfield 46, 3) := by decide +kernel
theorem dX12_strip_234 : decode cX12_strip 234 = .ok (.aload_n 0, 1) := by decide +kernel
theorem dX12_strip_235 : decode cX12_strip 235 = .ok (.getfield 121, 3) := by decide +kernel
theorem dX12_strip_238 : decode cX12_strip 238 = .ok (.iload_n 1, 1) := by decide +kernel
theorem dX12_strip_239 : decode cX12_strip 239 = .ok (.iaload, 1) := by decide +kernel
theorem dX12_strip_240 : decode cX12_strip 240 = .ok (.bipush 8, 2) := by decide +kernel
theorem dX12_strip_242 : decode cX12_strip 242 = .ok (.iadd, 1) := by decide +kernel
theorem dX12_strip_243 : decode cX12_strip 243 = .ok (.aload_n 0, 1) := by decide +kernel
theorem dX12_strip_244 : decode cX12_strip 244 = .ok (.getfield 124, 3) := by decide +kernel
theorem dX12_strip_247 : decode cX12_strip 247 = .ok (.iload_n 1, 1) := by decide +kernel
theorem dX12_strip_248 : decode cX12_strip 248 = .ok (.iaload, 1) := by decide +kernel
theorem dX12_strip_249 : decode cX12_strip 249 = .ok (.bipush 12, 2) := by decide +kernel
theorem dX12_strip_251 : decode cX12_strip 251 = .ok (.isub, 1) := by decide +kernel
theorem dX12_strip_252 : decode cX12_strip 252 = .ok (.i2l, 1) := by decide +kernel
theorem dX12_strip_253 : decode cX12_strip 253 = .ok (.iconst 4, 1) := by decide +kernel
theorem dX12_strip_254 : decode cX12_strip 254 = .ok (.invokestatic 195, 3) := by decide +kernel
theorem dX12_strip_257 : decode cX12_strip 257 = .ok (.iload_n 3, 1) := by decide +kernel
theorem dX12_strip_258 : decode cX12_strip 258 = .ok (.ifCond .le 23, 3) := by decide +kernel
theorem dX12_strip_261 : decode cX12_strip 261 = .ok (.aload_n 0, 1) := by decide +kernel
theorem dX12_strip_262 : decode cX12_strip 262 = .ok (.getfield 46, 3) := by decide +kernel
theorem dX12_strip_265 : decode cX12_strip 265 = .ok (.aload_n 0, 1) := by decide +kernel
theorem dX12_strip_266 : decode cX12_strip 266 = .ok (.getfield 121, 3) := by decide +kernel
theorem dX12_strip_269 : decode cX12_strip 269 = .ok (.iload_n 1, 1) := by decide +kernel
theorem dX12_strip_270 : decode cX12_strip 270 = .ok (.iaload, 1) := by decide +kernel
theorem dX12_strip_271 : decode cX12_strip 271 = .ok (.bipush 35, 2) := by decide +kernel
theorem dX12_strip_273 : decode cX12_strip 273 = .ok (.iadd, 1) := by decide +kernel
theorem dX12_strip_274 : decode cX12_strip 274 = .ok (.lload 4, 2) := by decide +kernel
theorem dX12_strip_276 : decode cX12_strip 276 = .ok (.bipush 8, 2) := by decide +kernel
theorem dX12_strip_278 : decode cX12_strip 278 = .ok (.invokestatic 195, 3) := by decide +kernel
theorem dX12_strip_281 : decode cX12_strip 281 = .ok (.aload_n 0, 1) := by decide +kernel
theorem dX12_strip_282 : decode cX12_strip 282 = .ok (.getfield 46, 3) := by decide +kernel
theorem dX12_strip_285 : decode cX12_strip 285 = .ok (.aload_n 0, 1) := by decide +kernel
theorem dX12_strip_286 : decode cX12_strip 286 = .ok (.getfield 121, 3) := by decide +kernel
theorem dX12_strip_289 : decode cX12_strip 289 = .ok (.iload_n 1, 1) := by decide +kernel
theorem dX12_strip_290 : decode cX12_strip 290 = .ok (.iaload, 1) := by decide +kernel
theorem dX12_strip_291 : decode cX12_strip 291 = .ok (.bipush 57, 2) := by decide +kernel
theorem dX12_strip_293 : decode cX12_strip 293 = .ok (.iadd, 1) := by decide +kernel
theorem dX12_strip_294 : decode cX12_strip 294 = .ok (.iload_n 3, 1) := by decide +kernel
theorem dX12_strip_295 : decode cX12_strip 295 = .ok (.i2l, 1) := by decide +kernel
theorem dX12_strip_296 : decode cX12_strip 296 = .ok (.iconst 4, 1) := by decide +kernel
theorem dX12_strip_297 : decode cX12_strip 297 = .ok (.invokestatic 195, 3) := by decide +kernel
theorem dX12_strip_300 : decode cX12_strip 300 = .ok (.aload_n 0, 1) := by decide +kernel
theorem dX12_strip_301 : decode cX12_strip 301 = .ok (.getfield 46, 3) := by decide +kernel
theorem dX12_strip_304 : decode cX12_strip 304 = .ok (.aload_n 0, 1) := by decide +kernel
theorem dX12_strip_305 : decode cX12_strip 305 = .ok (.getfield 121, 3) := by decide +kernel
theorem dX12_strip_308 : decode cX12_strip 308 = .ok (.iload_n 1, 1) := by decide +kernel
theorem dX12_strip_309 : decode cX12_strip 309 = .ok (.iaload, 1) := by decide +kernel
theorem dX12_strip_310 : decode cX12_strip 310 = .ok (.bipush 17, 2) := by decide +kernel
theorem dX12_strip_312 : decode cX12_strip 312 = .ok (.iadd, 1) := by decide +kernel
theorem dX12_strip_313 : decode cX12_strip 313 = .ok (.aload_n 0, 1) := by decide +kernel
theorem dX12_strip_314 : decode cX12_strip 314 = .ok (.getfield 46, 3) := by decide +kernel
theorem dX12_strip_317 : decode cX12_strip 317 = .ok (.aload_n 0, 1) := by decide +kernel
theorem dX12_strip_318 : decode cX12_strip 318 = .ok (.getfield 121, 3) := by decide +kernel
theorem dX12_strip_321 : decode cX12_strip 321 = .ok (.iload_n 1, 1) := by decide +kernel
theorem dX12_strip_322 : decode cX12_strip 322 = .ok (.iaload, 1) := by decide +kernel
theorem dX12_strip_323 : decode cX12_strip 323 = .ok (.bipush 21, 2) := by decide +kernel
theorem dX12_strip_325 : decode cX12_strip 325 = .ok (.iadd, 1) := by decide +kernel
theorem dX12_strip_326 : decode cX12_strip 326 = .ok (.aload_n 0, 1) := by decide +kernel
theorem dX12_strip_327 : decode cX12_strip 327 = .ok (.getfield 298, 3) := by decide +kernel
theorem dX12_strip_330 : decode cX12_strip 330 = .ok (.invokestatic 191, 3) := by decide +kernel
theorem dX12_strip_333 : decode cX12_strip 333 = .ok (.iconst 4, 1) := by decide +kernel
theorem dX12_strip_334 : decode cX12_strip 334 = .ok (.invokestatic 195, 3) := by decide +kernel
theorem dX12_strip_337 : decode cX12_strip 337 = .ok (.iload_n 3, 1) := by decide +kernel
theorem dX12_strip_338 : decode cX12_strip 338 = .ok (.ifCond .ne 18, 3) := by decide +kernel
theorem dX12_strip_341 : decode cX12_strip 341 = .ok (.aload_n 0, 1) := by decide +kernel
theorem dX12_strip_342 : decode cX12_strip 342 = .ok (.iload_n 1, 1) := by decide +kernel
theorem dX12_strip_343 : decode cX12_strip 343 = .ok (.invokevirtual 411, 3) := by decide +kernel
theorem dX12_strip_346 : decode cX12_strip 346 = .ok (.ifCond .ne 10, 3) := by decide +kernel
theorem dX12_strip_349 : decode cX12_strip 349 = .ok (.aload_n 0, 1) := by decide +kernel
theorem dX12_strip_350 : decode cX12_strip 350 = .ok (.getfield 124, 3) := by decide +kernel
theorem dX12_strip_353 : decode cX12_strip 353 = .ok (.iload_n 1, 1) := by decide +kernel
theorem dX12_strip_354 : decode cX12_strip 354 = .ok (.iconst 0, 1) := by decide +kernel
theorem dX12_strip_355 : decode cX12_strip 355 = .ok (.iastore, 1) := by decide +kernel
theorem dX12_strip_356 : decode cX12_strip 356 = .ok (.iload 6, 2) := by decide +kernel
theorem dX12_strip_358 : decode cX12_strip 358 = .ok (.iload_n 2, 1) := by decide +kernel
theorem dX12_strip_359 : decode cX12_strip 359 = .ok (.isub, 1) := by decide +kernel
theorem dX12_strip_360 : decode cX12_strip 360 = .ok (.ireturn, 1) := by decide +kernel
theorem dX12_plan_0 : decode cX12_plan 0 = .ok (.aload_n 0, 1) := by decide +kernel
theorem dX12_plan_1 : decode cX12_plan 1 = .ok (.invokevirtual 301, 3) := by decide +kernel
theorem dX12_plan_4 : decode cX12_plan 4 = .ok (.aload_n 0, 1) := by decide +kernel
theorem dX12_plan_5 : decode cX12_plan 5 = .ok (.iconst 0, 1) := by decide +kernel
theorem dX12_plan_6 : decode cX12_plan 6 = .ok (.putfield 414, 3) := by decide +kernel
theorem dX12_plan_9 : decode cX12_plan 9 = .ok (.iconst 0, 1) := by decide +kernel
theorem dX12_plan_10 : decode cX12_plan 10 = .ok (.istore_n 2, 1) := by decide +kernel
theorem dX12_plan_11 : decode cX12_plan 11 = .ok (.iload_n 2, 1) := by decide +kernel
theorem dX12_plan_12 : decode cX12_plan 12 = .ok (.aload_n 0, 1) := by decide +kernel
theorem dX12_plan_13 : decode cX12_plan 13 = .ok (.getfield 295, 3) := by decide +kernel
theorem dX12_plan_16 : decode cX12_plan 16 = .ok (.if_icmp .ge 129, 3) := by decide +kernel
theorem dX12_plan_19 : decode cX12_plan 19 = .ok (.aload_n 0, 1) := by decide +kernel
theorem dX12_plan_20 : decode cX12_plan 20 = .ok (.iload_n 2, 1) := by decide +kernel
theorem dX12_plan_21 : decode cX12_plan 21 = .ok (.iload_n 1, 1) := by decide +kernel
theorem dX12_plan_22 : decode cX12_plan 22 = .ok (.invokevirtual 408, 3) := by decide +kernel
theorem dX12_plan_25 : decode cX12_plan 25 = .ok (.ifCond .eq 114, 3) := by decide +kernel
theorem dX12_plan_28 : decode cX12_plan 28 = .ok (.aload_n 0, 1) := by decide +kernel
theorem dX12_plan_29 : decode cX12_plan 29 = .ok (.getfield 124, 3) := by decide +kernel
theorem dX12_plan_32 : decode cX12_plan 32 = .ok (.iload_n 2, 1) := by decide +kernel
theorem dX12_plan_33 : decode cX12_plan 33 = .ok (.iaload, 1) := by decide +kernel
theorem dX12_plan_34 : decode cX12_plan 34 = .ok (.ifCond .le 105, 3) := by decide +kernel
theorem dX12_plan_37 : decode cX12_plan 37 = .ok (.aload_n 0, 1) := by decide +kernel
theorem dX12_plan_38 : decode cX12_plan 38 = .ok (.getfield 414, 3) := by decide +kernel
theorem dX12_plan_41 : decode cX12_plan 41 = .ok (.ifCond .eq 32, 3) := by decide +kernel
theorem dX12_plan_44 : decode cX12_plan 44 = .ok (.aload_n 0, 1) := by decide +kernel
theorem dX12_plan_45 : decode cX12_plan 45 = .ok (.getfield 130, 3) := by decide +kernel
theorem dX12_plan_48 : decode cX12_plan 48 = .ok (.aload_n 0, 1) := by decide +kernel
theorem dX12_plan_49 : decode cX12_plan 49 = .ok (.getfield 414, 3) := by decide +kernel
theorem dX12_plan_52 : decode cX12_plan 52 = .ok (.iconst 1, 1) := by decide +kernel
theorem dX12_plan_53 : decode cX12_plan 53 = .ok (.isub, 1) := by decide +kernel
theorem dX12_plan_54 : decode cX12_plan 54 = .ok (.iaload, 1) := by decide +kernel
theorem dX12_plan_55 : decode cX12_plan 55 = .ok (.aload_n 0, 1) := by decide +kernel
theorem dX12_plan_56 : decode cX12_plan 56 = .ok (.getfield 124, 3) := by decide +kernel
theorem dX12_plan_59 : decode cX12_plan 59 = .ok (.iload_n 2, 1) := by decide +kernel
theorem dX12_plan_60 : decode cX12_plan 60 = .ok (.iaload, 1) := by decide +kernel
theorem dX12_plan_61 : decode cX12_plan 61 = .ok (.iadd, 1) := by decide +kernel
theorem dX12_plan_62 : decode cX12_plan 62 = .ok (.sipush 1024, 3) := by decide +kernel
theorem dX12_plan_65 : decode cX12_plan 65 = .ok (.aload_n 0, 1) := by decide +kernel
theorem dX12_plan_66 : decode cX12_plan 66 = .ok (.getfield 139, 3) := by decide +kernel
theorem dX12_plan_69 : decode cX12_plan 69 = .ok (.imul, 1) := by decide +kernel
theorem dX12_plan_70 : decode cX12_plan 70 = .ok (.if_icmp .le 49, 3) := by decide +kernel
theorem dX12_plan_73 : decode cX12_plan 73 = .ok (.aload_n 0, 1) := by decide +kernel
theorem dX12_plan_74 : decode cX12_plan 74 = .ok (.invokevirtual 304, 3) := by decide +kernel
theorem dX12_plan_77 : decode cX12_plan 77 = .ok (.istore_n 3, 1) := by decide +kernel
theorem dX12_plan_78 : decode cX12_plan 78 = .ok (.iload_n 3, 1) := by decide +kernel
theorem dX12_plan_79 : decode cX12_plan 79 = .ok (.ifCond .ge 5, 3) := by decide +kernel
theorem dX12_plan_82 : decode cX12_plan 82 = .ok (.iconst 0, 1) := by decide +kernel
theorem dX12_plan_83 : decode cX12_plan 83 = .ok (.ireturn, 1) := by decide +kernel
theorem dX12_plan_84 : decode cX12_plan 84 = .ok (.aload_n 0, 1) := by decide +kernel
theorem dX12_plan_85 : decode cX12_plan 85 = .ok (.iload_n 3, 1) := by decide +kernel
theorem dX12_plan_86 : decode cX12_plan 86 = .ok (.invokevirtual 289, 3) := by decide +kernel
theorem dX12_plan_89 : decode cX12_plan 89 = .ok (.aload_n 0, 1) := by decide +kernel
theorem dX12_plan_90 : decode cX12_plan 90 = .ok (.getfield 127, 3) := by decide +kernel
theorem dX12_plan_93 : decode cX12_plan 93 = .ok (.aload_n 0, 1) := by decide +kernel
theorem dX12_plan_94 : decode cX12_plan 94 = .ok (.getfield 414, 3) := by decide +kernel
theorem dX12_plan_97 : decode cX12_plan 97 = .ok (.iload_n 3, 1) := by decide +kernel
theorem dX12_plan_98 : decode cX12_plan 98 = .ok (.iastore, 1) := by decide +kernel
theorem dX12_plan_99 : decode cX12_plan 99 = .ok (.aload_n 0, 1) := by decide +kernel
theorem dX12_plan_100 : decode cX12_plan 100 = .ok (.getfield 130, 3) := by decide +kernel
theorem dX12_plan_103 : decode cX12_plan 103 = .ok (.aload_n 0, 1) := by decide +kernel
theorem dX12_plan_104 : decode cX12_plan 104 = .ok (.getfield 414, 3) := by decide +kernel
theorem dX12_plan_107 : decode cX12_plan 107 = .ok (.iconst 0, 1) := by decide +kernel
theorem dX12_plan_108 : decode cX12_plan 108 = .ok (.iastore, 1) := by decide +kernel
theorem dX12_plan_109 : decode cX12_plan 109 = .ok (.aload_n 0, 1) := by decide +kernel
theorem dX12_plan_110 : decode cX12_plan 110 = .ok (.dup, 1) := by decide +kernel
theorem dX12_plan_111 : decode cX12_plan 111 = .ok (.getfield 414, 3) := by decide +kernel
theorem dX12_plan_114 : decode cX12_plan 114 = .ok (.iconst 1, 1) := by decide +kernel
theorem dX12_plan_115 : decode cX12_plan 115 = .ok (.iadd, 1) := by decide +kernel
theorem dX12_plan_116 : decode cX12_plan 116 = .ok (.putfield 414, 3) := by decide +kernel
theorem dX12_plan_119 : decode cX12_plan 119 = .ok (.aload_n 0, 1) := by decide +kernel
theorem dX12_plan_120 : decode cX12_plan 120 = .ok (.getfield 130, 3) := by decide +kernel
theorem dX12_plan_123 : decode cX12_plan 123 = .ok (.aload_n 0, 1) := by decide +kernel
theorem dX12_plan_124 : decode cX12_plan 124 = .ok (.getfield 414, 3) := by decide +kernel
theorem dX12_plan_127 : decode cX12_plan 127 = .ok (.iconst 1, 1) := by decide +kernel
theorem dX12_plan_128 : decode cX12_plan 128 = .ok (.isub, 1) := by decide +kernel
theorem dX12_plan_129 : decode cX12_plan 129 = .ok (.dup2, 1) := by decide +kernel
theorem dX12_plan_130 : decode cX12_plan 130 = .ok (.iaload, 1) := by decide +kernel
theorem dX12_plan_131 : decode cX12_plan 131 = .ok (.aload_n 0, 1) := by decide +kernel
theorem dX12_plan_132 : decode cX12_plan 132 = .ok (.getfield 124, 3) := by decide +kernel
theorem dX12_plan_135 : decode cX12_plan 135 = .ok (.iload_n 2, 1) := by decide +kernel
theorem dX12_plan_136 : decode cX12_plan 136 = .ok (.iaload, 1) := by decide +kernel
theorem dX12_plan_137 : decode cX12_plan 137 = .ok (.iadd, 1) := by decide +kernel
theorem dX12_plan_138 : decode cX12_plan 138 = .ok (.iastore, 1) := by decide +kernel
theorem dX12_plan_139 : decode cX12_plan 139 = .ok (.iinc 2 1, 3) := by decide +kernel
theorem dX12_plan_142 : decode cX12_plan 142 = .ok (.goto (-131), 3) := by decide +kernel
theorem dX12_plan_145 : decode cX12_plan 145 = .ok (.iconst 1, 1) := by decide +kernel
theorem dX12_plan_146 : decode cX12_plan 146 = .ok (.ireturn, 1) := by decide +kernel
theorem dX12_happen_0 : decode cX12_happen 0 = .ok (.aload_n 0, 1) := by decide +kernel
theorem dX12_happen_1 : decode cX12_happen 1 = .ok (.iload_n 1, 1) := by decide +kernel
theorem dX12_happen_2 : decode cX12_happen 2 = .ok (.invokevirtual 395, 3) := by decide +kernel
theorem dX12_happen_5 : decode cX12_happen 5 = .ok (.istore_n 2, 1) := by decide +kernel
theorem dX12_happen_6 : decode cX12_happen 6 = .ok (.aload_n 0, 1) := by decide +kernel
theorem dX12_happen_7 : decode cX12_happen 7 = .ok (.getfield 64, 3) := by decide +kernel
theorem dX12_happen_10 : decode cX12_happen 10 = .ok (.bipush 60, 2) := by decide +kernel
theorem dX12_happen_12 : decode cX12_happen 12 = .ok (.iload_n 1, 1) := by decide +kernel
theorem dX12_happen_13 : decode cX12_happen 13 = .ok (.imul, 1) := by decide +kernel
theorem dX12_happen_14 : decode cX12_happen 14 = .ok (.aload_n 0, 1) := by decide +kernel
theorem dX12_happen_15 : decode cX12_happen 15 = .ok (.getfield 58, 3) := by decide +kernel
theorem dX12_happen_18 : decode cX12_happen 18 = .ok (.iload_n 1, 1) := by decide +kernel
theorem dX12_happen_19 : decode cX12_happen 19 = .ok (.iaload, 1) := by decide +kernel
theorem dX12_happen_20 : decode cX12_happen 20 = .ok (.iadd, 1) := by decide +kernel
theorem dX12_happen_21 : decode cX12_happen 21 = .ok (.iconst 1, 1) := by decide +kernel
theorem dX12_happen_22 : decode cX12_happen 22 = .ok (.isub, 1) := by decide +kernel
theorem dX12_happen_23 : decode cX12_happen 23 = .ok (.iaload, 1) := by decide +kernel
theorem dX12_happen_24 : decode cX12_happen 24 = .ok (.istore_n 3, 1) := by decide +kernel
theorem dX12_happen_25 : decode cX12_happen 25 = .ok (.iconst 0, 1) := by decide +kernel
theorem dX12_happen_26 : decode cX12_happen 26 = .ok (.istore 4, 2) := by decide +kernel
theorem dX12_happen_28 : decode cX12_happen 28 = .ok (.iconst 0, 1) := by decide +kernel
theorem dX12_happen_29 : decode cX12_happen 29 = .ok (.istore 5, 2) := by decide +kernel
theorem dX12_happen_31 : decode cX12_happen 31 = .ok (.iconst 0, 1) := by decide +kernel
theorem dX12_happen_32 : decode cX12_happen 32 = .ok (.istore 6, 2) := by decide +kernel
theorem dX12_happen_34 : decode cX12_happen 34 = .ok (.iconst 0, 1) := by decide +kernel
theorem dX12_happen_35 : decode cX12_happen 35 = .ok (.istore 7, 2) := by decide +kernel
theorem dX12_happen_37 : decode cX12_happen 37 = .ok (.iload 7, 2) := by decide +kernel
theorem dX12_happen_39 : decode cX12_happen 39 = .ok (.aload_n 0, 1) := by decide +kernel
theorem dX12_happen_40 : decode cX12_happen 40 = .ok (.getfield 295, 3) := by decide +kernel
theorem dX12_happen_43 : decode cX12_happen 43 = .ok (.if_icmp .ge 150, 3) := by decide +kernel
theorem dX12_happen_46 : decode cX12_happen 46 = .ok (.aload_n 0, 1) := by decide +kernel
theorem dX12_happen_47 : decode cX12_happen 47 = .ok (.getfield 33, 3) := by decide +kernel
theorem dX12_happen_50 : decode cX12_happen 50 = .ok (.iload 7, 2) := by decide +kernel
theorem dX12_happen_52 : decode cX12_happen 52 = .ok (.iaload, 1) := by decide +kernel
theorem dX12_happen_53 : decode cX12_happen 53 = .ok (.iload_n 1, 1) := by decide +kernel
theorem dX12_happen_54 : decode cX12_happen 54 = .ok (.if_icmp .ne 18, 3) := by decide +kernel
theorem dX12_happen_57 : decode cX12_happen 57 = .ok (.aload_n 0, 1) := by decide +kernel
theorem dX12_happen_58 : decode cX12_happen 58 = .ok (.getfield 42, 3) := by decide +kernel
theorem dX12_happen_61 : decode cX12_happen 61 = .ok (.iload 7, 2) := by decide +kernel
theorem dX12_happen_63 : decode cX12_happen 63 = .ok (.iaload, 1) := by decide +kernel
theorem dX12_happen_64 : decode cX12_happen 64 = .ok (.iload_n 2, 1) := by decide +kernel
theorem dX12_happen_65 : decode cX12_happen 65 = .ok (.if_icmp .eq 7, 3) := by decide +kernel
theorem dX12_happen_68 : decode cX12_happen 68 = .ok (.iconst 1, 1) := by decide +kernel
theorem dX12_happen_69 : decode cX12_happen 69 = .ok (.goto 4, 3) := by decide +kernel
theorem dX12_happen_72 : decode cX12_happen 72 = .ok (.iconst 0, 1) := by decide +kernel
theorem dX12_happen_73 : decode cX12_happen 73 = .ok (.istore 8, 2) := by decide +kernel
theorem dX12_happen_75 : decode cX12_happen 75 = .ok (.iload 8, 2) := by decide +kernel
theorem dX12_happen_77 : decode cX12_happen 77 = .ok (.ifCond .ne 17, 3) := by decide +kernel
theorem dX12_happen_80 : decode cX12_happen 80 = .ok (.aload_n 0, 1) := by decide +kernel
theorem dX12_happen_81 : decode cX12_happen 81 = .ok (.iload 7, 2) := by decide +kernel
theorem dX12_happen_83 : decode cX12_happen 83 = .ok (.iload 4, 2) := by decide +kernel
theorem dX12_happen_85 : decode cX12_happen 85 = .ok (.invokevirtual 391, 3) := by decide +kernel
theorem dX12_happen_88 : decode cX12_happen 88 = .ok (.iinc 4 1, 3) := by decide +kernel
theorem dX12_happen_91 : decode cX12_happen 91 = .ok (.goto 96, 3) := by decide +kernel
theorem dX12_happen_94 : decode cX12_happen 94 = .ok (.aload_n 0, 1) := by decide +kernel
theorem dX12_happen_95 : decode cX12_happen 95 = .ok (.getfield 124, 3) := by decide +kernel
theorem dX12_happen_98 : decode cX12_happen 98 = .ok (.iload 7, 2) := by decide +kernel
theorem dX12_happen_100 : decode cX12_happen 100 = .ok (.iaload, 1) := by decide +kernel
theorem dX12_happen_101 : decode cX12_happen 101 = .ok (.ifCond .le 86, 3) := by decide +kernel
theorem dX12_happen_104 : decode cX12_happen 104 = .ok (.iload 6, 2) := by decide +kernel
theorem dX12_happen_106 : decode cX12_happen 106 = .ok (.aload_n 0, 1) := by decide +kernel
theorem dX12_happen_107 : decode cX12_happen 107 = .ok (.getfield 130, 3) := by decide +kernel
theorem dX12_happen_110 : decode cX12_happen 110 = .ok (.iload 5, 2) := by decide +kernel
theorem dX12_happen_112 : decode cX12_happen 112 = .ok (.iaload, 1) := by decide +kernel
theorem dX12_happen_113 : decode cX12_happen 113 = .ok (.if_icmp .ne 9, 3) := by decide +kernel
theorem dX12_happen_116 : decode cX12_happen 116 = .ok (.iinc 5 1, 3) := by decide +kernel
theorem dX12_happen_119 : decode cX12_happen 119 = .ok (.iconst 0, 1) := by decide +kernel
theorem dX12_happen_120 : decode cX12_happen 120 = .ok (.istore 6, 2) := by decide +kernel
theorem dX12_happen_122 : decode cX12_happen 122 = .ok (.iload 6, 2) := by decide +kernel
theorem dX12_happen_124 : decode cX12_happen 124 = .ok (.aload_n 0, 1) := by decide +kernel
theorem dX12_happen_125 : decode cX12_happen 125 = .ok (.getfield 124, 3) := by decide +kernel
theorem dX12_happen_128 : decode cX12_happen 128 = .ok (.iload 7, 2) := by decide +kernel
theorem dX12_happen_130 : decode cX12_happen 130 = .ok (.iaload, 1) := by decide +kernel
theorem dX12_happen_131 : decode cX12_happen 131 = .ok (.iadd, 1) := by decide +kernel
theorem dX12_happen_132 : decode cX12_happen 132 = .ok (.istore 6, 2) := by decide +kernel
theorem dX12_happen_134 : decode cX12_happen 134 = .ok (.aload_n 0, 1) := by decide +kernel
theorem dX12_happen_135 : decode cX12_happen 135 = .ok (.getfield 33, 3) := by decide +kernel
theorem dX12_happen_138 : decode cX12_happen 138 = .ok (.iload 4, 2) := by decide +kernel
theorem dX12_happen_140 : decode cX12_happen 140 = .ok (.iload_n 1, 1) := by decide +kernel
theorem dX12_happen_141 : decode cX12_happen 141 = .ok (.iastore, 1) := by decide +kernel
theorem dX12_happen_142 : decode cX12_happen 142 = .ok (.aload_n 0, 1) := by decide +kernel
theorem dX12_happen_143 : decode cX12_happen 143 = .ok (.getfield 36, 3) := by decide +kernel
theorem dX12_happen_146 : decode cX12_happen 146 = .ok (.iload 4, 2) := by decide +kernel
theorem dX12_happen_148 : decode cX12_happen 148 = .ok (.aload_n 0, 1) := by decide +kernel
theorem dX12_happen_149 : decode cX12_happen 149 = .ok (.getfield 121, 3) := by decide +kernel
theorem dX12_happen_152 : decode cX12_happen 152 = .ok (.iload 7, 2) := by decide +kernel
theorem dX12_happen_154 : decode cX12_happen 154 = .ok (.iaload, 1) := by decide +kernel
theorem dX12_happen_155 : decode cX12_happen 155 = .ok (.iastore, 1) := by decide +kernel
theorem dX12_happen_156 : decode cX12_happen 156 = .ok (.aload_n 0, 1) := by decide +kernel
theorem dX12_happen_157 : decode cX12_happen 157 = .ok (.getfield 39, 3) := by decide +kernel
theorem dX12_happen_160 : decode cX12_happen 160 = .ok (.iload 4, 2) := by decide +kernel
theorem dX12_happen_162 : decode cX12_happen 162 = .ok (.aload_n 0, 1) := by decide +kernel
theorem dX12_happen_163 : decode cX12_happen 163 = .ok (.getfield 124, 3) := by decide +kernel
theorem dX12_happen_166 : decode cX12_happen 166 = .ok (.iload 7, 2) := by decide +kernel
theorem dX12_happen_168 : decode cX12_happen 168 = .ok (.iaload, 1) := by decide +kernel
theorem dX12_happen_169 : decode cX12_happen 169 = .ok (.iastore, 1) := by decide +kernel
theorem dX12_happen_170 : decode cX12_happen 170 = .ok (.aload_n 0, 1) := by decide +kernel
theorem dX12_happen_171 : decode cX12_happen 171 = .ok (.getfield 42, 3) := by decide +kernel
theorem dX12_happen_174 : decode cX12_happen 174 = .ok (.iload 4, 2) := by decide +kernel
theorem dX12_happen_176 : decode cX12_happen 176 = .ok (.aload_n 0, 1) := by decide +kernel
theorem dX12_happen_177 : decode cX12_happen 177 = .ok (.getfield 127, 3) := by decide +kernel
theorem dX12_happen_180 : decode cX12_happen 180 = .ok (.iload 5, 2) := by decide +kernel
theorem dX12_happen_182 : decode cX12_happen 182 = .ok (.iaload, 1) := by decide +kernel
theorem dX12_happen_183 : decode cX12_happen 183 = .ok (.iastore, 1) := by decide +kernel
theorem dX12_happen_184 : decode cX12_happen 184 = .ok (.iinc 4 1, 3) := by decide +kernel
theorem dX12_happen_187 : decode cX12_happen 187 = .ok (.iinc 7 1, 3) := by decide +kernel
theorem dX12_happen_190 : decode cX12_happen 190 = .ok (.goto (-153), 3) := by decide +kernel
theorem dX12_happen_193 : decode cX12_happen 193 = .ok (.aload_n 0, 1) := by decide +kernel
theorem dX12_happen_194 : decode cX12_happen 194 = .ok (.iload 4, 2) := by decide +kernel
theorem dX12_happen_196 : decode cX12_happen 196 = .ok (.putfield 295, 3) := by decide +kernel
theorem dX12_happen_199 : decode cX12_happen 199 = .ok (.iconst 0, 1) := by decide +kernel
theorem dX12_happen_200 : decode cX12_happen 200 = .ok (.istore 7, 2) := by decide +kernel
theorem dX12_happen_202 : decode cX12_happen 202 = .ok (.iload 7, 2) := by decide +kernel
theorem dX12_happen_204 : decode cX12_happen 204 = .ok (.aload_n 0, 1) := by decide +kernel
theorem dX12_happen_205 : decode cX12_happen 205 = .ok (.getfield 414, 3) := by decide +kernel
theorem dX12_happen_208 : decode cX12_happen 208 = .ok (.if_icmp .ge 47, 3) := by decide +kernel
theorem dX12_happen_211 : decode cX12_happen 211 = .ok (.aload_n 0, 1) := by decide +kernel
theorem dX12_happen_212 : decode cX12_happen 212 = .ok (.getfield 61, 3) := by decide +kernel
theorem dX12_happen_215 : decode cX12_happen 215 = .ok (.bipush 60, 2) := by decide +kernel
theorem dX12_happen_217 : decode cX12_happen 217 = .ok (.iload_n 1, 1) := by decide +kernel
theorem dX12_happen_218 : decode cX12_happen 218 = .ok (.imul, 1) := by decide +kernel
theorem dX12_happen_219 : decode cX12_happen 219 = .ok (.iload 7, 2) := by decide +kernel
theorem dX12_happen_221 : decode cX12_happen 221 = .ok (.iadd, 1) := by decide +kernel
theorem dX12_happen_222 : decode cX12_happen 222 = .ok (.aload_n 0, 1) := by decide +kernel
theorem dX12_happen_223 : decode cX12_happen 223 = .ok (.getfield 127, 3) := by decide +kernel
theorem dX12_happen_226 : decode cX12_happen 226 = .ok (.iload 7, 2) := by decide +kernel
theorem dX12_happen_228 : decode cX12_happen 228 = .ok (.iaload, 1) := by decide +kernel
theorem dX12_happen_229 : decode cX12_happen 229 = .ok (.iastore, 1) := by decide +kernel
theorem dX12_happen_230 : decode cX12_happen 230 = .ok (.aload_n 0, 1) := by decide +kernel
theorem dX12_happen_231 : decode cX12_happen 231 = .ok (.getfield 64, 3) := by decide +kernel
theorem dX12_happen_234 : decode cX12_happen 234 = .ok (.bipush 60, 2) := by decide +kernel
theorem dX12_happen_236 : decode cX12_happen 236 = .ok (.iload_n 1, 1) := by decide +kernel
theorem dX12_happen_237 : decode cX12_happen 237 = .ok (.imul, 1) := by decide +kernel
theorem dX12_happen_238 : decode cX12_happen 238 = .ok (.iload 7, 2) := by decide +kernel
theorem dX12_happen_240 : decode cX12_happen 240 = .ok (.iadd, 1) := by decide +kernel
theorem dX12_happen_241 : decode cX12_happen 241 = .ok (.aload_n 0, 1) := by decide +kernel
theorem dX12_happen_242 : decode cX12_happen 242 = .ok (.getfield 130, 3) := by decide +kernel
theorem dX12_happen_245 : decode cX12_happen 245 = .ok (.iload 7, 2) := by decide +kernel
theorem dX12_happen_247 : decode cX12_happen 247 = .ok (.iaload, 1) := by decide +kernel
theorem dX12_happen_248 : decode cX12_happen 248 = .ok (.iastore, 1) := by decide +kernel
theorem dX12_happen_249 : decode cX12_happen 249 = .ok (.iinc 7 1, 3) := by decide +kernel
theorem dX12_happen_252 : decode cX12_happen 252 = .ok (.goto (-50), 3) := by decide +kernel
theorem dX12_happen_255 : decode cX12_happen 255 = .ok (.aload_n 0, 1) := by decide +kernel
theorem dX12_happen_256 : decode cX12_happen 256 = .ok (.getfield 61, 3) := by decide +kernel
theorem dX12_happen_259 : decode cX12_happen 259 = .ok (.bipush 60, 2) := by decide +kernel
theorem dX12_happen_261 : decode cX12_happen 261 = .ok (.iload_n 1, 1) := by decide +kernel
theorem dX12_happen_262 : decode cX12_happen 262 = .ok (.imul, 1) := by decide +kernel
theorem dX12_happen_263 : decode cX12_happen 263 = .ok (.aload_n 0, 1) := by decide +kernel
theorem dX12_happen_264 : decode cX12_happen 264 = .ok (.getfield 414, 3) := by decide +kernel
theorem dX12_happen_267 : decode cX12_happen 267 = .ok (.iadd, 1) := by decide +kernel
theorem dX12_happen_268 : decode cX12_happen 268 = .ok (.iload_n 2, 1) := by decide +kernel
theorem dX12_happen_269 : decode cX12_happen 269 = .ok (.iastore, 1) := by decide +kernel
theorem dX12_happen_270 : decode cX12_happen 270 = .ok (.aload_n 0, 1) := by decide +kernel
theorem dX12_happen_271 : decode cX12_happen 271 = .ok (.getfield 64, 3) := by decide +kernel
theorem dX12_happen_274 : decode cX12_happen 274 = .ok (.bipush 60, 2) := by decide +kernel
theorem dX12_happen_276 : decode cX12_happen 276 = .ok (.iload_n 1, 1) := by decide +kernel
theorem dX12_happen_277 : decode cX12_happen 277 = .ok (.imul, 1) := by decide +kernel
theorem dX12_happen_278 : decode cX12_happen 278 = .ok (.aload_n 0, 1) := by decide +kernel
theorem dX12_happen_279 : decode cX12_happen 279 = .ok (.getfield 414, 3) := by decide +kernel
theorem dX12_happen_282 : decode cX12_happen 282 = .ok (.iadd, 1) := by decide +kernel
theorem dX12_happen_283 : decode cX12_happen 283 = .ok (.iload_n 3, 1) := by decide +kernel
theorem dX12_happen_284 : decode cX12_happen 284 = .ok (.iastore, 1) := by decide +kernel
theorem dX12_happen_285 : decode cX12_happen 285 = .ok (.aload_n 0, 1) := by decide +kernel
theorem dX12_happen_286 : decode cX12_happen 286 = .ok (.getfield 58, 3) := by decide +kernel
theorem dX12_happen_289 : decode cX12_happen 289 = .ok (.iload_n 1, 1) := by decide +kernel
theorem dX12_happen_290 : decode cX12_happen 290 = .ok (.aload_n 0, 1) := by decide +kernel
theorem dX12_happen_291 : decode cX12_happen 291 = .ok (.getfield 414, 3) := by decide +kernel
theorem dX12_happen_294 : decode cX12_happen 294 = .ok (.iconst 1, 1) := by decide +kernel
theorem dX12_happen_295 : decode cX12_happen 295 = .ok (.iadd, 1) := by decide +kernel
theorem dX12_happen_296 : decode cX12_happen 296 = .ok (.iastore, 1) := by decide +kernel
theorem dX12_happen_297 : decode cX12_happen 297 = .ok (.return_, 1) := by decide +kernel
theorem dX12_compact_0 : decode cX12_compact 0 = .ok (.aload_n 0, 1) := by decide +kernel
theorem dX12_compact_1 : decode cX12_compact 1 = .ok (.iload_n 1, 1) := by decide +kernel
theorem dX12_compact_2 : decode cX12_compact 2 = .ok (.ifCond .lt 15, 3) := by decide +kernel
theorem dX12_compact_5 : decode cX12_compact 5 = .ok (.iload_n 1, 1) := by decide +kernel
theorem dX12_compact_6 : decode cX12_compact 6 = .ok (.aload_n 0, 1) := by decide +kernel
theorem dX12_compact_7 : decode cX12_compact 7 = .ok (.getfield 136, 3) := by decide +kernel
theorem dX12_compact_10 : decode cX12_compact 10 = .ok (.if_icmp .gt 7, 3) := by decide +kernel
theorem dX12_compact_13 : decode cX12_compact 13 = .ok (.iconst 1, 1) := by decide +kernel
theorem dX12_compact_14 : decode cX12_compact 14 = .ok (.goto 4, 3) := by decide +kernel
theorem dX12_compact_17 : decode cX12_compact 17 = .ok (.iconst 0, 1) := by decide +kernel
theorem dX12_compact_18 : decode cX12_compact 18 = .ok (.invokevirtual 361, 3) := by decide +kernel
theorem dX12_compact_21 : decode cX12_compact 21 = .ok (.ifCond .ne 5, 3) := by decide +kernel
theorem dX12_compact_24 : decode cX12_compact 24 = .ok (.iconst 0, 1) := by decide +kernel
theorem dX12_compact_25 : decode cX12_compact 25 = .ok (.ireturn, 1) := by decide +kernel
theorem dX12_compact_26 : decode cX12_compact 26 = .ok (.aload_n 0, 1) := by decide +kernel
theorem dX12_compact_27 : decode cX12_compact 27 = .ok (.invokevirtual 316, 3) := by decide +kernel
theorem dX12_compact_30 : decode cX12_compact 30 = .ok (.aload_n 0, 1) := by decide +kernel
theorem dX12_compact_31 : decode cX12_compact 31 = .ok (.iload_n 1, 1) := by decide +kernel
theorem dX12_compact_32 : decode cX12_compact 32 = .ok (.invokevirtual 417, 3) := by decide +kernel
theorem dX12_compact_35 : decode cX12_compact 35 = .ok (.aload_n 0, 1) := by decide +kernel
theorem dX12_compact_36 : decode cX12_compact 36 = .ok (.iload_n 1, 1) := by decide +kernel
theorem dX12_compact_37 : decode cX12_compact 37 = .ok (.invokevirtual 420, 3) := by decide +kernel
theorem dX12_compact_40 : decode cX12_compact 40 = .ok (.iconst 0, 1) := by decide +kernel
theorem dX12_compact_41 : decode cX12_compact 41 = .ok (.istore_n 2, 1) := by decide +kernel
theorem dX12_compact_42 : decode cX12_compact 42 = .ok (.iconst 0, 1) := by decide +kernel
theorem dX12_compact_43 : decode cX12_compact 43 = .ok (.istore_n 3, 1) := by decide +kernel
theorem dX12_compact_44 : decode cX12_compact 44 = .ok (.iload_n 3, 1) := by decide +kernel
theorem dX12_compact_45 : decode cX12_compact 45 = .ok (.aload_n 0, 1) := by decide +kernel
theorem dX12_compact_46 : decode cX12_compact 46 = .ok (.getfield 398, 3) := by decide +kernel
theorem dX12_compact_49 : decode cX12_compact 49 = .ok (.if_icmp .ge 26, 3) := by decide +kernel
theorem dX12_compact_52 : decode cX12_compact 52 = .ok (.iload_n 2, 1) := by decide +kernel
theorem dX12_compact_53 : decode cX12_compact 53 = .ok (.aload_n 0, 1) := by decide +kernel
theorem dX12_compact_54 : decode cX12_compact 54 = .ok (.getfield 112, 3) := by decide +kernel
theorem dX12_compact_57 : decode cX12_compact 57 = .ok (.iload_n 3, 1) := by decide +kernel
theorem dX12_compact_58 : decode cX12_compact 58 = .ok (.baload, 1) := by decide +kernel
theorem dX12_compact_59 : decode cX12_compact 59 = .ok (.ifCond .eq 7, 3) := by decide +kernel
theorem dX12_compact_62 : decode cX12_compact 62 = .ok (.iconst 1, 1) := by decide +kernel
theorem dX12_compact_63 : decode cX12_compact 63 = .ok (.goto 4, 3) := by decide +kernel
theorem dX12_compact_66 : decode cX12_compact 66 = .ok (.iconst 0, 1) := by decide +kernel
theorem dX12_compact_67 : decode cX12_compact 67 = .ok (.iadd, 1) := by decide +kernel
theorem dX12_compact_68 : decode cX12_compact 68 = .ok (.istore_n 2, 1) := by decide +kernel
theorem dX12_compact_69 : decode cX12_compact 69 = .ok (.iinc 3 1, 3) := by decide +kernel
theorem dX12_compact_72 : decode cX12_compact 72 = .ok (.goto (-28), 3) := by decide +kernel
theorem dX12_compact_75 : decode cX12_compact 75 = .ok (.iconst 0, 1) := by decide +kernel
theorem dX12_compact_76 : decode cX12_compact 76 = .ok (.istore_n 3, 1) := by decide +kernel
theorem dX12_compact_77 : decode cX12_compact 77 = .ok (.iconst 0, 1) := by decide +kernel
theorem dX12_compact_78 : decode cX12_compact 78 = .ok (.istore 4, 2) := by decide +kernel
theorem dX12_compact_80 : decode cX12_compact 80 = .ok (.iconst 0, 1) := by decide +kernel
theorem dX12_compact_81 : decode cX12_compact 81 = .ok (.istore 5, 2) := by decide +kernel
theorem dX12_compact_83 : decode cX12_compact 83 = .ok (.iload 5, 2) := by decide +kernel
theorem dX12_compact_85 : decode cX12_compact 85 = .ok (.aload_n 0, 1) := by decide +kernel
theorem dX12_compact_86 : decode cX12_compact 86 = .ok (.getfield 295, 3) := by decide +kernel
theorem dX12_compact_89 : decode cX12_compact 89 = .ok (.if_icmp .ge 50, 3) := by decide +kernel
theorem dX12_compact_92 : decode cX12_compact 92 = .ok (.aload_n 0, 1) := by decide +kernel
theorem dX12_compact_93 : decode cX12_compact 93 = .ok (.iload 5, 2) := by decide +kernel
theorem dX12_compact_95 : decode cX12_compact 95 = .ok (.iload_n 1, 1) := by decide +kernel
theorem dX12_compact_96 : decode cX12_compact 96 = .ok (.invokevirtual 408, 3) := by decide +kernel
theorem dX12_compact_99 : decode cX12_compact 99 = .ok (.ifCond .eq 34, 3) := by decide +kernel
theorem dX12_compact_102 : decode cX12_compact 102 = .ok (.iload 4, 2) := by decide +kernel
theorem dX12_compact_104 : decode cX12_compact 104 = .ok (.aload_n 0, 1) := by decide +kernel
theorem dX12_compact_105 : decode cX12_compact 105 = .ok (.iload 5, 2) := by decide +kernel
theorem dX12_compact_107 : decode cX12_compact 107 = .ok (.iload 4, 2) := by decide +kernel
theorem dX12_compact_109 : decode cX12_compact 109 = .ok (.invokevirtual 423, 3) := by decide +kernel
theorem dX12_compact_112 : decode cX12_compact 112 = .ok (.iadd, 1) := by decide +kernel
theorem dX12_compact_113 : decode cX12_compact 113 = .ok (.istore 4, 2) := by decide +kernel
theorem dX12_compact_115 : decode cX12_compact 115 = .ok (.iload_n 3, 1) := by decide +kernel
theorem dX12_compact_116 : decode cX12_compact 116 = .ok (.aload_n 0, 1) := by decide +kernel
theorem dX12_compact_117 : decode cX12_compact 117 = .ok (.getfield 124, 3) := by decide +kernel
theorem dX12_compact_120 : decode cX12_compact 120 = .ok (.iload 5, 2) := by decide +kernel
theorem dX12_compact_122 : decode cX12_compact 122 = .ok (.iaload, 1) := by decide +kernel
theorem dX12_compact_123 : decode cX12_compact 123 = .ok (.ifCond .ne 7, 3) := by decide +kernel
theorem dX12_compact_126 : decode cX12_compact 126 = .ok (.iconst 1, 1) := by decide +kernel
theorem dX12_compact_127 : decode cX12_compact 127 = .ok (.goto 4, 3) := by decide +kernel
theorem dX12_compact_130 : decode cX12_compact 130 = .ok (.iconst 0, 1) := by decide +kernel
theorem dX12_compact_131 : decode cX12_compact 131 = .ok (.iadd, 1) := by decide +kernel
theorem dX12_compact_132 : decode cX12_compact 132 = .ok (.istore_n 3, 1) := by decide +kernel
theorem dX12_compact_133 : decode cX12_compact 133 = .ok (.iinc 5 1, 3) := by decide +kernel
theorem dX12_compact_136 : decode cX12_compact 136 = .ok (.goto (-53), 3) := by decide +kernel
theorem dX12_compact_139 : decode cX12_compact 139 = .ok (.iload_n 2, 1) := by decide +kernel
theorem dX12_compact_140 : decode cX12_compact 140 = .ok (.iload_n 3, 1) := by decide +kernel
theorem dX12_compact_141 : decode cX12_compact 141 = .ok (.iadd, 1) := by decide +kernel
theorem dX12_compact_142 : decode cX12_compact 142 = .ok (.ifCond .ne 5, 3) := by decide +kernel
theorem dX12_compact_145 : decode cX12_compact 145 = .ok (.iconst 0, 1) := by decide +kernel
theorem dX12_compact_146 : decode cX12_compact 146 = .ok (.ireturn, 1) := by decide +kernel
theorem dX12_compact_147 : decode cX12_compact 147 = .ok (.aload_n 0, 1) := by decide +kernel
theorem dX12_compact_148 : decode cX12_compact 148 = .ok (.iload_n 1, 1) := by decide +kernel
theorem dX12_compact_149 : decode cX12_compact 149 = .ok (.invokevirtual 426, 3) := by decide +kernel
theorem dX12_compact_152 : decode cX12_compact 152 = .ok (.ifCond .ne 6, 3) := by decide +kernel
theorem dX12_compact_155 : decode cX12_compact 155 = .ok (.bipush (-2), 2) := by decide +kernel
theorem dX12_compact_157 : decode cX12_compact 157 = .ok (.ireturn, 1) := by decide +kernel
theorem dX12_compact_158 : decode cX12_compact 158 = .ok (.iconst 1, 1) := by decide +kernel
theorem dX12_compact_159 : decode cX12_compact 159 = .ok (.istore 5, 2) := by decide +kernel
theorem dX12_compact_161 : decode cX12_compact 161 = .ok (.iconst 0, 1) := by decide +kernel
theorem dX12_compact_162 : decode cX12_compact 162 = .ok (.istore 6, 2) := by decide +kernel
theorem dX12_compact_164 : decode cX12_compact 164 = .ok (.iload 6, 2) := by decide +kernel
theorem dX12_compact_166 : decode cX12_compact 166 = .ok (.aload_n 0, 1) := by decide +kernel
theorem dX12_compact_167 : decode cX12_compact 167 = .ok (.getfield 414, 3) := by decide +kernel
theorem dX12_compact_170 : decode cX12_compact 170 = .ok (.if_icmp .ge 25, 3) := by decide +kernel
theorem dX12_compact_173 : decode cX12_compact 173 = .ok (.iload 5, 2) := by decide +kernel
theorem dX12_compact_175 : decode cX12_compact 175 = .ok (.iconst 0, 1) := by decide +kernel
theorem dX12_compact_176 : decode cX12_compact 176 = .ok (.aload_n 0, 1) := by decide +kernel
theorem dX12_compact_177 : decode cX12_compact 177 = .ok (.getfield 130, 3) := by decide +kernel
theorem dX12_compact_180 : decode cX12_compact 180 = .ok (.iload 6, 2) := by decide +kernel
theorem dX12_compact_182 : decode cX12_compact 182 = .ok (.iaload, 1) := by decide +kernel
theorem dX12_compact_183 : decode cX12_compact 183 = .ok (.invokestatic 307, 3) := by decide +kernel
theorem dX12_compact_186 : decode cX12_compact 186 = .ok (.iadd, 1) := by decide +kernel
theorem dX12_compact_187 : decode cX12_compact 187 = .ok (.istore 5, 2) := by decide +kernel
theorem dX12_compact_189 : decode cX12_compact 189 = .ok (.iinc 6 1, 3) := by decide +kernel
theorem dX12_compact_192 : decode cX12_compact 192 = .ok (.goto (-28), 3) := by decide +kernel
theorem dX12_compact_195 : decode cX12_compact 195 = .ok (.aload_n 0, 1) := by decide +kernel
theorem dX12_compact_196 : decode cX12_compact 196 = .ok (.iload 5, 2) := by decide +kernel
theorem dX12_compact_198 : decode cX12_compact 198 = .ok (.invokevirtual 311, 3) := by decide +kernel
theorem dX12_compact_201 : decode cX12_compact 201 = .ok (.ifCond .eq 8, 3) := by decide +kernel
theorem dX12_compact_204 : decode cX12_compact 204 = .ok (.aload_n 0, 1) := by decide +kernel
theorem dX12_compact_205 : decode cX12_compact 205 = .ok (.iload_n 1, 1) := by decide +kernel
theorem dX12_compact_206 : decode cX12_compact 206 = .ok (.invokevirtual 429, 3) := by decide +kernel
theorem dX12_compact_209 : decode cX12_compact 209 = .ok (.aload_n 0, 1) := by decide +kernel
theorem dX12_compact_210 : decode cX12_compact 210 = .ok (.getfield 286, 3) := by decide +kernel
theorem dX12_compact_213 : decode cX12_compact 213 = .ok (.ifCond .eq 8, 3) := by decide +kernel
theorem dX12_compact_216 : decode cX12_compact 216 = .ok (.bipush (-3), 2) := by decide +kernel
theorem dX12_compact_218 : decode cX12_compact 218 = .ok (.goto 4, 3) := by decide +kernel
theorem dX12_compact_221 : decode cX12_compact 221 = .ok (.iload_n 2, 1) := by decide +kernel
theorem dX12_compact_222 : decode cX12_compact 222 = .ok (.ireturn, 1) := by decide +kernel
theorem dX12_notes_0 : decode cX12_notes 0 = .ok (.iconst 0, 1) := by decide +kernel
theorem dX12_notes_1 : decode cX12_notes 1 = .ok (.istore 5, 2) := by decide +kernel
theorem dX12_notes_3 : decode cX12_notes 3 = .ok (.iload 5, 2) := by decide +kernel
theorem dX12_notes_5 : decode cX12_notes 5 = .ok (.bipush 78, 2) := by decide +kernel
theorem dX12_notes_7 : decode cX12_notes 7 = .ok (.if_icmp .ge 17, 3) := by decide +kernel
theorem dX12_notes_10 : decode cX12_notes 10 = .ok (.aload_n 0, 1) := by decide +kernel
theorem dX12_notes_11 : decode cX12_notes 11 = .ok (.getfield 133, 3) := by decide +kernel
theorem dX12_notes_14 : decode cX12_notes 14 = .ok (.iload 5, 2) := by decide +kernel
theorem dX12_notes_16 : decode cX12_notes 16 = .ok (.iconst 0, 1) := by decide +kernel
theorem dX12_notes_17 : decode cX12_notes 17 = .ok (.iastore, 1) := by decide +kernel
theorem dX12_notes_18 : decode cX12_notes 18 = .ok (.iinc 5 1, 3) := by decide +kernel
theorem dX12_notes_21 : decode cX12_notes 21 = .ok (.goto (-18), 3) := by decide +kernel
theorem dX12_notes_24 : decode cX12_notes 24 = .ok (.aload_n 0, 1) := by decide +kernel
theorem dX12_notes_25 : decode cX12_notes 25 = .ok (.getfield 133, 3) := by decide +kernel
theorem dX12_notes_28 : decode cX12_notes 28 = .ok (.bipush 8, 2) := by decide +kernel
theorem dX12_notes_30 : decode cX12_notes 30 = .ok (.ldc2_w 432, 3) := by decide +kernel
theorem dX12_notes_33 : decode cX12_notes 33 = .ok (.iconst 4, 1) := by decide +kernel
theorem dX12_notes_34 : decode cX12_notes 34 = .ok (.invokestatic 195, 3) := by decide +kernel
theorem dX12_notes_37 : decode cX12_notes 37 = .ok (.aload_n 0, 1) := by decide +kernel
theorem dX12_notes_38 : decode cX12_notes 38 = .ok (.getfield 133, 3) := by decide +kernel
theorem dX12_notes_41 : decode cX12_notes 41 = .ok (.bipush 16, 2) := by decide +kernel
theorem dX12_notes_43 : decode cX12_notes 43 = .ok (.iconst 2, 1) := by decide +kernel
theorem dX12_notes_44 : decode cX12_notes 44 = .ok (.iastore, 1) := by decide +kernel
theorem dX12_notes_45 : decode cX12_notes 45 = .ok (.aload_n 0, 1) := by decide +kernel
theorem dX12_notes_46 : decode cX12_notes 46 = .ok (.getfield 133, 3) := by decide +kernel
theorem dX12_notes_49 : decode cX12_notes 49 = .ok (.bipush 27, 2) := by decide +kernel
theorem dX12_notes_51 : decode cX12_notes 51 = .ok (.aload_n 0, 1) := by decide +kernel
theorem dX12_notes_52 : decode cX12_notes 52 = .ok (.getfield 401, 3) := by decide +kernel
theorem dX12_notes_55 : decode cX12_notes 55 = .ok (.i2l, 1) := by decide +kernel
theorem dX12_notes_56 : decode cX12_notes 56 = .ok (.bipush 8, 2) := by decide +kernel
theorem dX12_notes_58 : decode cX12_notes 58 = .ok (.invokestatic 195, 3) := by decide +kernel
theorem dX12_notes_61 : decode cX12_notes 61 = .ok (.aload_n 0, 1) := by decide +kernel
theorem dX12_notes_62 : decode cX12_notes 62 = .ok (.getfield 133, 3) := by decide +kernel
theorem dX12_notes_65 : decode cX12_notes 65 = .ok (.bipush 35, 2) := by decide +kernel
theorem dX12_notes_67 : decode cX12_notes 67 = .ok (.aload_n 0, 1) := by decide +kernel
theorem dX12_notes_68 : decode cX12_notes 68 = .ok (.getfield 401, 3) := by decide +kernel
theorem dX12_notes_71 : decode cX12_notes 71 = .ok (.i2l, 1) := by decide +kernel
theorem dX12_notes_72 : decode cX12_notes 72 = .ok (.bipush 8, 2) := by decide +kernel
theorem dX12_notes_74 : decode cX12_notes 74 = .ok (.invokestatic 195, 3) := by decide +kernel
theorem dX12_notes_77 : decode cX12_notes 77 = .ok (.aload_n 0, 1) := by decide +kernel
theorem dX12_notes_78 : decode cX12_notes 78 = .ok (.getfield 133, 3) := by decide +kernel
theorem dX12_notes_81 : decode cX12_notes 81 = .ok (.bipush 43, 2) := by decide +kernel
theorem dX12_notes_83 : decode cX12_notes 83 = .ok (.ldc2_w 205, 3) := by decide +kernel
theorem dX12_notes_86 : decode cX12_notes 86 = .ok (.bipush 8, 2) := by decide +kernel
theorem dX12_notes_88 : decode cX12_notes 88 = .ok (.invokestatic 195, 3) := by decide +kernel
theorem dX12_notes_91 : decode cX12_notes 91 = .ok (.aload_n 0, 1) := by decide +kernel
theorem dX12_notes_92 : decode cX12_notes 92 = .ok (.getfield 133, 3) := by decide +kernel
theorem dX12_notes_95 : decode cX12_notes 95 = .ok (.bipush 51, 2) := by decide +kernel
theorem dX12_notes_97 : decode cX12_notes 97 = .ok (.ldc2_w 205, 3) := by decide +kernel
theorem dX12_notes_100 : decode cX12_notes 100 = .ok (.iconst 2, 1) := by decide +kernel
theorem dX12_notes_101 : decode cX12_notes 101 = .ok (.invokestatic 195, 3) := by decide +kernel
theorem dX12_notes_104 : decode cX12_notes 104 = .ok (.aload_n 0, 1) := by decide +kernel
theorem dX12_notes_105 : decode cX12_notes 105 = .ok (.getfield 133, 3) := by decide +kernel
theorem dX12_notes_108 : decode cX12_notes 108 = .ok (.bipush 53, 2) := by decide +kernel
theorem dX12_notes_110 : decode cX12_notes 110 = .ok (.ldc2_w 205, 3) := by decide +kernel
theorem dX12_notes_113 : decode cX12_notes 113 = .ok (.iconst 4, 1) := by decide +kernel
theorem dX12_notes_114 : decode cX12_notes 114 = .ok (.invokestatic 195, 3) := by decide +kernel
theorem dX12_notes_117 : decode cX12_notes 117 = .ok (.aload_n 0, 1) := by decide +kernel
theorem dX12_notes_118 : decode cX12_notes 118 = .ok (.getfield 133, 3) := by decide +kernel
theorem dX12_notes_121 : decode cX12_notes 121 = .ok (.bipush 57, 2) := by decide +kernel
theorem dX12_notes_123 : decode cX12_notes 123 = .ok (.lconst 1, 1) := by decide +kernel
theorem dX12_notes_124 : decode cX12_notes 124 = .ok (.iconst 4, 1) := by decide +kernel
theorem dX12_notes_125 : decode cX12_notes 125 = .ok (.invokestatic 195, 3) := by decide +kernel
theorem dX12_notes_128 : decode cX12_notes 128 = .ok (.aload_n 0, 1) := by decide +kernel
theorem dX12_notes_129 : decode cX12_notes 129 = .ok (.getfield 133, 3) := by decide +kernel
theorem dX12_notes_132 : decode cX12_notes 132 = .ok (.bipush 61, 2) := by decide +kernel
theorem dX12_notes_134 : decode cX12_notes 134 = .ok (.bipush 32, 2) := by decide +kernel
theorem dX12_notes_136 : decode cX12_notes 136 = .ok (.iastore, 1) := by decide +kernel
theorem dX12_notes_137 : decode cX12_notes 137 = .ok (.aload_n 0, 1) := by decide +kernel
theorem dX12_notes_138 : decode cX12_notes 138 = .ok (.getfield 133, 3) := by decide +kernel
theorem dX12_notes_141 : decode cX12_notes 141 = .ok (.bipush 65, 2) := by decide +kernel
theorem dX12_notes_143 : decode cX12_notes 143 = .ok (.iconst 4, 1) := by decide +kernel
theorem dX12_notes_144 : decode cX12_notes 144 = .ok (.iastore, 1) := by decide +kernel
theorem dX12_notes_145 : decode cX12_notes 145 = .ok (.aload_n 0, 1) := by decide +kernel
theorem dX12_notes_146 : decode cX12_notes 146 = .ok (.getfield 133, 3) := by decide +kernel
theorem dX12_notes_149 : decode cX12_notes 149 = .ok (.bipush 66, 2) := by decide +kernel
theorem dX12_notes_151 : decode cX12_notes 151 = .ok (.iload_n 1, 1) := by decide +kernel
theorem dX12_notes_152 : decode cX12_notes 152 = .ok (.iastore, 1) := by decide +kernel
theorem dX12_notes_153 : decode cX12_notes 153 = .ok (.aload_n 0, 1) := by decide +kernel
theorem dX12_notes_154 : decode cX12_notes 154 = .ok (.getfield 133, 3) := by decide +kernel
theorem dX12_notes_157 : decode cX12_notes 157 = .ok (.bipush 67, 2) := by decide +kernel
theorem dX12_notes_159 : decode cX12_notes 159 = .ok (.iload_n 2, 1) := by decide +kernel
theorem dX12_notes_160 : decode cX12_notes 160 = .ok (.iastore, 1) := by decide +kernel
theorem dX12_notes_161 : decode cX12_notes 161 = .ok (.aload_n 0, 1) := by decide +kernel
theorem dX12_notes_162 : decode cX12_notes 162 = .ok (.getfield 133, 3) := by decide +kernel
theorem dX12_notes_165 : decode cX12_notes 165 = .ok (.bipush 68, 2) := by decide +kernel
theorem dX12_notes_167 : decode cX12_notes 167 = .ok (.bipush 16, 2) := by decide +kernel
theorem dX12_notes_169 : decode cX12_notes 169 = .ok (.iastore, 1) := by decide +kernel
theorem dX12_notes_170 : decode cX12_notes 170 = .ok (.aload_n 0, 1) := by decide +kernel
theorem dX12_notes_171 : decode cX12_notes 171 = .ok (.getfield 133, 3) := by decide +kernel
theorem dX12_notes_174 : decode cX12_notes 174 = .ok (.bipush 69, 2) := by decide +kernel
theorem dX12_notes_176 : decode cX12_notes 176 = .ok (.lload_n 3, 1) := by decide +kernel
theorem dX12_notes_177 : decode cX12_notes 177 = .ok (.bipush 8, 2) := by decide +kernel
theorem dX12_notes_179 : decode cX12_notes 179 = .ok (.invokestatic 195, 3) := by decide +kernel
theorem dX12_notes_182 : decode cX12_notes 182 = .ok (.aload_n 0, 1) := by decide +kernel
theorem dX12_notes_183 : decode cX12_notes 183 = .ok (.getfield 133, 3) := by decide +kernel
theorem dX12_notes_186 : decode cX12_notes 186 = .ok (.bipush 17, 2) := by decide +kernel
theorem dX12_notes_188 : decode cX12_notes 188 = .ok (.aload_n 0, 1) := by decide +kernel
theorem dX12_notes_189 : decode cX12_notes 189 = .ok (.getfield 133, 3) := by decide +kernel
theorem dX12_notes_192 : decode cX12_notes 192 = .ok (.bipush 21, 2) := by decide +kernel
theorem dX12_notes_194 : decode cX12_notes 194 = .ok (.bipush 78, 2) := by decide +kernel
theorem dX12_notes_196 : decode cX12_notes 196 = .ok (.invokestatic 191, 3) := by decide +kernel
theorem dX12_notes_199 : decode cX12_notes 199 = .ok (.iconst 4, 1) := by decide +kernel
theorem dX12_notes_200 : decode cX12_notes 200 = .ok (.invokestatic 195, 3) := by decide +kernel
theorem dX12_notes_203 : decode cX12_notes 203 = .ok (.aload_n 0, 1) := by decide +kernel
theorem dX12_notes_204 : decode cX12_notes 204 = .ok (.aload_n 0, 1) := by decide +kernel
theorem dX12_notes_205 : decode cX12_notes 205 = .ok (.getfield 136, 3) := by decide +kernel
theorem dX12_notes_208 : decode cX12_notes 208 = .ok (.aload_n 0, 1) := by decide +kernel
theorem dX12_notes_209 : decode cX12_notes 209 = .ok (.getfield 133, 3) := by decide +kernel
theorem dX12_notes_212 : decode cX12_notes 212 = .ok (.bipush 78, 2) := by decide +kernel
theorem dX12_notes_214 : decode cX12_notes 214 = .ok (.invokevirtual 372, 3) := by decide +kernel
theorem dX12_notes_217 : decode cX12_notes 217 = .ok (.ireturn, 1) := by decide +kernel
theorem dX12_noted_0 : decode cX12_noted 0 = .ok (.aload_n 0, 1) := by decide +kernel
theorem dX12_noted_1 : decode cX12_noted 1 = .ok (.getfield 295, 3) := by decide +kernel
theorem dX12_noted_4 : decode cX12_noted 4 = .ok (.iconst 1, 1) := by decide +kernel
theorem dX12_noted_5 : decode cX12_noted 5 = .ok (.isub, 1) := by decide +kernel
theorem dX12_noted_6 : decode cX12_noted 6 = .ok (.istore_n 3, 1) := by decide +kernel
theorem dX12_noted_7 : decode cX12_noted 7 = .ok (.iload_n 3, 1) := by decide +kernel
theorem dX12_noted_8 : decode cX12_noted 8 = .ok (.ifCond .lt 88, 3) := by decide +kernel
theorem dX12_noted_11 : decode cX12_noted 11 = .ok (.aload_n 0, 1) := by decide +kernel
theorem dX12_noted_12 : decode cX12_noted 12 = .ok (.getfield 33, 3) := by decide +kernel
theorem dX12_noted_15 : decode cX12_noted 15 = .ok (.iload_n 3, 1) := by decide +kernel
theorem dX12_noted_16 : decode cX12_noted 16 = .ok (.iaload, 1) := by decide +kernel
theorem dX12_noted_17 : decode cX12_noted 17 = .ok (.aload_n 0, 1) := by decide +kernel
theorem dX12_noted_18 : decode cX12_noted 18 = .ok (.getfield 136, 3) := by decide +kernel
theorem dX12_noted_21 : decode cX12_noted 21 = .ok (.if_icmp .ne 69, 3) := by decide +kernel
theorem dX12_noted_24 : decode cX12_noted 24 = .ok (.aload_n 0, 1) := by decide +kernel
theorem dX12_noted_25 : decode cX12_noted 25 = .ok (.iload_n 3, 1) := by decide +kernel
theorem dX12_noted_26 : decode cX12_noted 26 = .ok (.invokevirtual 319, 3) := by decide +kernel
theorem dX12_noted_29 : decode cX12_noted 29 = .ok (.ifCond .le 61, 3) := by decide +kernel
theorem dX12_noted_32 : decode cX12_noted 32 = .ok (.aload_n 0, 1) := by decide +kernel
theorem dX12_noted_33 : decode cX12_noted 33 = .ok (.iload_n 3, 1) := by decide +kernel
theorem dX12_noted_34 : decode cX12_noted 34 = .ok (.invokevirtual 376, 3) := by decide +kernel
theorem dX12_noted_37 : decode cX12_noted 37 = .ok (.aload_n 0, 1) := by decide +kernel
theorem dX12_noted_38 : decode cX12_noted 38 = .ok (.aload_n 0, 1) := by decide +kernel
theorem dX12_noted_39 : decode cX12_noted 39 = .ok (.iload_n 3, 1) := by decide +kernel
theorem dX12_noted_40 : decode cX12_noted 40 = .ok (.invokevirtual 379, 3) := by decide +kernel
theorem dX12_noted_43 : decode cX12_noted 43 = .ok (.invokevirtual 279, 3) := by decide +kernel
theorem dX12_noted_46 : decode cX12_noted 46 = .ok (.istore 4, 2) := by decide +kernel
theorem dX12_noted_48 : decode cX12_noted 48 = .ok (.aload_n 0, 1) := by decide +kernel
theorem dX12_noted_49 : decode cX12_noted 49 = .ok (.getfield 46, 3) := by decide +kernel
theorem dX12_noted_52 : decode cX12_noted 52 = .ok (.aload_n 0, 1) := by decide +kernel
theorem dX12_noted_53 : decode cX12_noted 53 = .ok (.getfield 242, 3) := by decide +kernel
theorem dX12_noted_56 : decode cX12_noted 56 = .ok (.iaload, 1) := by decide +kernel
theorem dX12_noted_57 : decode cX12_noted 57 = .ok (.iload_n 1, 1) := by decide +kernel
theorem dX12_noted_58 : decode cX12_noted 58 = .ok (.if_icmp .ne 32, 3) := by decide +kernel
theorem dX12_noted_61 : decode cX12_noted 61 = .ok (.aload_n 0, 1) := by decide +kernel
theorem dX12_noted_62 : decode cX12_noted 62 = .ok (.getfield 46, 3) := by decide +kernel
theorem dX12_noted_65 : decode cX12_noted 65 = .ok (.aload_n 0, 1) := by decide +kernel
theorem dX12_noted_66 : decode cX12_noted 66 = .ok (.getfield 242, 3) := by decide +kernel
theorem dX12_noted_69 : decode cX12_noted 69 = .ok (.iconst 1, 1) := by decide +kernel
theorem dX12_noted_70 : decode cX12_noted 70 = .ok (.iadd, 1) := by decide +kernel
theorem dX12_noted_71 : decode cX12_noted 71 = .ok (.iaload, 1) := by decide +kernel
theorem dX12_noted_72 : decode cX12_noted 72 = .ok (.iload_n 2, 1) := by decide +kernel
theorem dX12_noted_73 : decode cX12_noted 73 = .ok (.if_icmp .ne 17, 3) := by decide +kernel
theorem dX12_noted_76 : decode cX12_noted 76 = .ok (.aload_n 0, 1) := by decide +kernel
theorem dX12_noted_77 : decode cX12_noted 77 = .ok (.getfield 46, 3) := by decide +kernel
theorem dX12_noted_80 : decode cX12_noted 80 = .ok (.aload_n 0, 1) := by decide +kernel
theorem dX12_noted_81 : decode cX12_noted 81 = .ok (.getfield 248, 3) := by decide +kernel
theorem dX12_noted_84 : decode cX12_noted 84 = .ok (.bipush 8, 2) := by decide +kernel
theorem dX12_noted_86 : decode cX12_noted 86 = .ok (.invokestatic 257, 3) := by decide +kernel
theorem dX12_noted_89 : decode cX12_noted 89 = .ok (.lreturn, 1) := by decide +kernel
theorem dX12_noted_90 : decode cX12_noted 90 = .ok (.iinc 3 (-1), 3) := by decide +kernel
theorem dX12_noted_93 : decode cX12_noted 93 = .ok (.goto (-86), 3) := by decide +kernel
theorem dX12_noted_96 : decode cX12_noted 96 = .ok (.ldc2_w 205, 3) := by decide +kernel
theorem dX12_noted_99 : decode cX12_noted 99 = .ok (.lreturn, 1) := by decide +kernel
theorem dX12_isOne_0 : decode cX12_isOne 0 = .ok (.iload_n 0, 1) := by decide +kernel
theorem dX12_isOne_1 : decode cX12_isOne 1 = .ok (.ifCond .lt 13, 3) := by decide +kernel
theorem dX12_isOne_4 : decode cX12_isOne 4 = .ok (.iload_n 0, 1) := by decide +kernel
theorem dX12_isOne_5 : decode cX12_isOne 5 = .ok (.bipush 8, 2) := by decide +kernel
theorem dX12_isOne_7 : decode cX12_isOne 7 = .ok (.if_icmp .ge 7, 3) := by decide +kernel
theorem dX12_isOne_10 : decode cX12_isOne 10 = .ok (.iconst 1, 1) := by decide +kernel
theorem dX12_isOne_11 : decode cX12_isOne 11 = .ok (.goto 4, 3) := by decide +kernel
theorem dX12_isOne_14 : decode cX12_isOne 14 = .ok (.iconst 0, 1) := by decide +kernel
theorem dX12_isOne_15 : decode cX12_isOne 15 = .ok (.ireturn, 1) := by decide +kernel
theorem dX12_countOfGroup_0 : decode cX12_countOfGroup 0 = .ok (.iconst 0, 1) := by decide +kernel
theorem dX12_countOfGroup_1 : decode cX12_countOfGroup 1 = .ok (.istore_n 3, 1) := by decide +kernel
theorem dX12_countOfGroup_2 : decode cX12_countOfGroup 2 = .ok (.bipush 8, 2) := by decide +kernel
theorem dX12_countOfGroup_4 : decode cX12_countOfGroup 4 = .ok (.iload_n 1, 1) := by decide +kernel
theorem dX12_countOfGroup_5 : decode cX12_countOfGroup 5 = .ok (.imul, 1) := by decide +kernel
theorem dX12_countOfGroup_6 : decode cX12_countOfGroup 6 = .ok (.istore 4, 2) := by decide +kernel
theorem dX12_countOfGroup_8 : decode cX12_countOfGroup 8 = .ok (.iload 4, 2) := by decide +kernel
theorem dX12_countOfGroup_10 : decode cX12_countOfGroup 10 = .ok (.bipush 8, 2) := by decide +kernel
theorem dX12_countOfGroup_12 : decode cX12_countOfGroup 12 = .ok (.iload_n 1, 1) := by decide +kernel
theorem dX12_countOfGroup_13 : decode cX12_countOfGroup 13 = .ok (.imul, 1) := by decide +kernel
theorem dX12_countOfGroup_14 : decode cX12_countOfGroup 14 = .ok (.bipush 8, 2) := by decide +kernel
theorem dX12_countOfGroup_16 : decode cX12_countOfGroup 16 = .ok (.iadd, 1) := by decide +kernel
theorem dX12_countOfGroup_17 : decode cX12_countOfGroup 17 = .ok (.if_icmp .ge 41, 3) := by decide +kernel
theorem dX12_countOfGroup_20 : decode cX12_countOfGroup 20 = .ok (.iload_n 3, 1) := by decide +kernel
theorem dX12_countOfGroup_21 : decode cX12_countOfGroup 21 = .ok (.aload_n 0, 1) := by decide +kernel
theorem dX12_countOfGroup_22 : decode cX12_countOfGroup 22 = .ok (.getfield 84, 3) := by decide +kernel
theorem dX12_countOfGroup_25 : decode cX12_countOfGroup 25 = .ok (.iload 4, 2) := by decide +kernel
theorem dX12_countOfGroup_27 : decode cX12_countOfGroup 27 = .ok (.baload, 1) := by decide +kernel
theorem dX12_countOfGroup_28 : decode cX12_countOfGroup 28 = .ok (.ifCond .eq 21, 3) := by decide +kernel
theorem dX12_countOfGroup_31 : decode cX12_countOfGroup 31 = .ok (.iload_n 2, 1) := by decide +kernel
theorem dX12_countOfGroup_32 : decode cX12_countOfGroup 32 = .ok (.ifCond .eq 13, 3) := by decide +kernel
theorem dX12_countOfGroup_35 : decode cX12_countOfGroup 35 = .ok (.aload_n 0, 1) := by decide +kernel
theorem dX12_countOfGroup_36 : decode cX12_countOfGroup 36 = .ok (.getfield 87, 3) := by decide +kernel
theorem dX12_countOfGroup_39 : decode cX12_countOfGroup 39 = .ok (.iload 4, 2) := by decide +kernel
theorem dX12_countOfGroup_41 : decode cX12_countOfGroup 41 = .ok (.baload, 1) := by decide +kernel
theorem dX12_countOfGroup_42 : decode cX12_countOfGroup 42 = .ok (.ifCond .eq 7, 3) := by decide +kernel
theorem dX12_countOfGroup_45 : decode cX12_countOfGroup 45 = .ok (.iconst 1, 1) := by decide +kernel
theorem dX12_countOfGroup_46 : decode cX12_countOfGroup 46 = .ok (.goto 4, 3) := by decide +kernel
theorem dX12_countOfGroup_49 : decode cX12_countOfGroup 49 = .ok (.iconst 0, 1) := by decide +kernel
theorem dX12_countOfGroup_50 : decode cX12_countOfGroup 50 = .ok (.iadd, 1) := by decide +kernel
theorem dX12_countOfGroup_51 : decode cX12_countOfGroup 51 = .ok (.istore_n 3, 1) := by decide +kernel
theorem dX12_countOfGroup_52 : decode cX12_countOfGroup 52 = .ok (.iinc 4 1, 3) := by decide +kernel
theorem dX12_countOfGroup_55 : decode cX12_countOfGroup 55 = .ok (.goto (-47), 3) := by decide +kernel
theorem dX12_countOfGroup_58 : decode cX12_countOfGroup 58 = .ok (.iload_n 3, 1) := by decide +kernel
theorem dX12_countOfGroup_59 : decode cX12_countOfGroup 59 = .ok (.ireturn, 1) := by decide +kernel
theorem dX12_mixes_0 : decode cX12_mixes 0 = .ok (.aload_n 0, 1) := by decide +kernel
theorem dX12_mixes_1 : decode cX12_mixes 1 = .ok (.getfield 75, 3) := by decide +kernel
theorem dX12_mixes_4 : decode cX12_mixes 4 = .ok (.iload_n 1, 1) := by decide +kernel
theorem dX12_mixes_5 : decode cX12_mixes 5 = .ok (.iconst 1, 1) := by decide +kernel
theorem dX12_mixes_6 : decode cX12_mixes 6 = .ok (.iastore, 1) := by decide +kernel
theorem dX12_mixes_7 : decode cX12_mixes 7 = .ok (.aload_n 0, 1) := by decide +kernel
theorem dX12_mixes_8 : decode cX12_mixes 8 = .ok (.getfield 81, 3) := by decide +kernel
theorem dX12_mixes_11 : decode cX12_mixes 11 = .ok (.iload_n 1, 1) := by decide +kernel
theorem dX12_mixes_12 : decode cX12_mixes 12 = .ok (.aload_n 0, 1) := by decide +kernel
theorem dX12_mixes_13 : decode cX12_mixes 13 = .ok (.getfield 401, 3) := by decide +kernel
theorem dX12_mixes_16 : decode cX12_mixes 16 = .ok (.bipush 20, 2) := by decide +kernel
theorem dX12_mixes_18 : decode cX12_mixes 18 = .ok (.iadd, 1) := by decide +kernel
theorem dX12_mixes_19 : decode cX12_mixes 19 = .ok (.iastore, 1) := by decide +kernel
theorem dX12_mixes_20 : decode cX12_mixes 20 = .ok (.bipush 8, 2) := by decide +kernel
theorem dX12_mixes_22 : decode cX12_mixes 22 = .ok (.iload_n 1, 1) := by decide +kernel
theorem dX12_mixes_23 : decode cX12_mixes 23 = .ok (.imul, 1) := by decide +kernel
theorem dX12_mixes_24 : decode cX12_mixes 24 = .ok (.istore_n 2, 1) := by decide +kernel
theorem dX12_mixes_25 : decode cX12_mixes 25 = .ok (.iload_n 2, 1) := by decide +kernel
theorem dX12_mixes_26 : decode cX12_mixes 26 = .ok (.bipush 8, 2) := by decide +kernel
theorem dX12_mixes_28 : decode cX12_mixes 28 = .ok (.iload_n 1, 1) := by decide +kernel
theorem dX12_mixes_29 : decode cX12_mixes 29 = .ok (.imul, 1) := by decide +kernel
theorem dX12_mixes_30 : decode cX12_mixes 30 = .ok (.bipush 8, 2) := by decide +kernel
theorem dX12_mixes_32 : decode cX12_mixes 32 = .ok (.iadd, 1) := by decide +kernel
theorem dX12_mixes_33 : decode cX12_mixes 33 = .ok (.if_icmp .ge 16, 3) := by decide +kernel
theorem dX12_mixes_36 : decode cX12_mixes 36 = .ok (.aload_n 0, 1) := by decide +kernel
theorem dX12_mixes_37 : decode cX12_mixes 37 = .ok (.getfield 87, 3) := by decide +kernel
theorem dX12_mixes_40 : decode cX12_mixes 40 = .ok (.iload_n 2, 1) := by decide +kernel
theorem dX12_mixes_41 : decode cX12_mixes 41 = .ok (.iconst 0, 1) := by decide +kernel
theorem dX12_mixes_42 : decode cX12_mixes 42 = .ok (.bastore, 1) := by decide +kernel
theorem dX12_mixes_43 : decode cX12_mixes 43 = .ok (.iinc 2 1, 3) := by decide +kernel
theorem dX12_mixes_46 : decode cX12_mixes 46 = .ok (.goto (-21), 3) := by decide +kernel
theorem dX12_mixes_49 : decode cX12_mixes 49 = .ok (.return_, 1) := by decide +kernel
theorem dX12_empties_0 : decode cX12_empties 0 = .ok (.aload_n 0, 1) := by decide +kernel
theorem dX12_empties_1 : decode cX12_empties 1 = .ok (.getfield 75, 3) := by decide +kernel
theorem dX12_empties_4 : decode cX12_empties 4 = .ok (.iload_n 1, 1) := by decide +kernel
theorem dX12_empties_5 : decode cX12_empties 5 = .ok (.iconst 0, 1) := by decide +kernel
theorem dX12_empties_6 : decode cX12_empties 6 = .ok (.iastore, 1) := by decide +kernel
theorem dX12_empties_7 : decode cX12_empties 7 = .ok (.bipush 8, 2) := by decide +kernel
theorem dX12_empties_9 : decode cX12_empties 9 = .ok (.iload_n 1, 1) := by decide +kernel
theorem dX12_empties_10 : decode cX12_empties 10 = .ok (.imul, 1) := by decide +kernel
theorem dX12_empties_11 : decode cX12_empties 11 = .ok (.istore_n 2, 1) := by decide +kernel
theorem dX12_empties_12 : decode cX12_empties 12 = .ok (.iload_n 2, 1) := by decide +kernel
theorem dX12_empties_13 : decode cX12_empties 13 = .ok (.bipush 8, 2) := by decide +kernel
theorem dX12_empties_15 : decode cX12_empties 15 = .ok (.iload_n 1, 1) := by decide +kernel
theorem dX12_empties_16 : decode cX12_empties 16 = .ok (.imul, 1) := by decide +kernel
theorem dX12_empties_17 : decode cX12_empties 17 = .ok (.bipush 8, 2) := by decide +kernel
theorem dX12_empties_19 : decode cX12_empties 19 = .ok (.iadd, 1) := by decide +kernel
theorem dX12_empties_20 : decode cX12_empties 20 = .ok (.if_icmp .ge 23, 3) := by decide +kernel
theorem dX12_empties_23 : decode cX12_empties 23 = .ok (.aload_n 0, 1) := by decide +kernel
theorem dX12_empties_24 : decode cX12_empties 24 = .ok (.getfield 84, 3) := by decide +kernel
theorem dX12_empties_27 : decode cX12_empties 27 = .ok (.iload_n 2, 1) := by decide +kernel
theorem dX12_empties_28 : decode cX12_empties 28 = .ok (.iconst 0, 1) := by decide +kernel
theorem dX12_empties_29 : decode cX12_empties 29 = .ok (.bastore, 1) := by decide +kernel
theorem dX12_empties_30 : decode cX12_empties 30 = .ok (.aload_n 0, 1) := by decide +kernel
theorem dX12_empties_31 : decode cX12_empties 31 = .ok (.getfield 87, 3) := by decide +kernel
theorem dX12_empties_34 : decode cX12_empties 34 = .ok (.iload_n 2, 1) := by decide +kernel
theorem dX12_empties_35 : decode cX12_empties 35 = .ok (.iconst 0, 1) := by decide +kernel
theorem dX12_empties_36 : decode cX12_empties 36 = .ok (.bastore, 1) := by decide +kernel
theorem dX12_empties_37 : decode cX12_empties 37 = .ok (.iinc 2 1, 3) := by decide +kernel
theorem dX12_empties_40 : decode cX12_empties 40 = .ok (.goto (-28), 3) := by decide +kernel
theorem dX12_empties_43 : decode cX12_empties 43 = .ok (.return_, 1) := by decide +kernel
theorem dX12_mayBeDone_0 : decode cX12_mayBeDone 0 = .ok (.aload_n 0, 1) := by decide +kernel
theorem dX12_mayBeDone_1 : decode cX12_mayBeDone 1 = .ok (.getfield 75, 3) := by decide +kernel
theorem dX12_mayBeDone_4 : decode cX12_mayBeDone 4 = .ok (.iload_n 1, 1) := by decide +kernel
theorem dX12_mayBeDone_5 : decode cX12_mayBeDone 5 = .ok (.iaload, 1) := by decide +kernel
theorem dX12_mayBeDone_6 : decode cX12_mayBeDone 6 = .ok (.iconst 1, 1) := by decide +kernel
theorem dX12_mayBeDone_7 : decode cX12_mayBeDone 7 = .ok (.if_icmp .eq 4, 3) := by decide +kernel
theorem dX12_mayBeDone_10 : decode cX12_mayBeDone 10 = .ok (.return_, 1) := by decide +kernel
theorem dX12_mayBeDone_11 : decode cX12_mayBeDone 11 = .ok (.aload_n 0, 1) := by decide +kernel
theorem dX12_mayBeDone_12 : decode cX12_mayBeDone 12 = .ok (.iload_n 1, 1) := by decide +kernel
theorem dX12_mayBeDone_13 : decode cX12_mayBeDone 13 = .ok (.iconst 1, 1) := by decide +kernel
theorem dX12_mayBeDone_14 : decode cX12_mayBeDone 14 = .ok (.invokevirtual 434, 3) := by decide +kernel
theorem dX12_mayBeDone_17 : decode cX12_mayBeDone 17 = .ok (.istore_n 2, 1) := by decide +kernel
theorem dX12_mayBeDone_18 : decode cX12_mayBeDone 18 = .ok (.iload_n 2, 1) := by decide +kernel
theorem dX12_mayBeDone_19 : decode cX12_mayBeDone 19 = .ok (.aload_n 0, 1) := by decide +kernel
theorem dX12_mayBeDone_20 : decode cX12_mayBeDone 20 = .ok (.iload_n 1, 1) := by decide +kernel
theorem dX12_mayBeDone_21 : decode cX12_mayBeDone 21 = .ok (.iconst 0, 1) := by decide +kernel
theorem dX12_mayBeDone_22 : decode cX12_mayBeDone 22 = .ok (.invokevirtual 434, 3) := by decide +kernel
theorem dX12_mayBeDone_25 : decode cX12_mayBeDone 25 = .ok (.if_icmp .ge 17, 3) := by decide +kernel
theorem dX12_mayBeDone_28 : decode cX12_mayBeDone 28 = .ok (.aload_n 0, 1) := by decide +kernel
theorem dX12_mayBeDone_29 : decode cX12_mayBeDone 29 = .ok (.getfield 401, 3) := by decide +kernel
theorem dX12_mayBeDone_32 : decode cX12_mayBeDone 32 = .ok (.aload_n 0, 1) := by decide +kernel
theorem dX12_mayBeDone_33 : decode cX12_mayBeDone 33 = .ok (.getfield 81, 3) := by decide +kernel
theorem dX12_mayBeDone_36 : decode cX12_mayBeDone 36 = .ok (.iload_n 1, 1) := by decide +kernel
theorem dX12_mayBeDone_37 : decode cX12_mayBeDone 37 = .ok (.iaload, 1) := by decide +kernel
theorem dX12_mayBeDone_38 : decode cX12_mayBeDone 38 = .ok (.if_icmp .ge 4, 3) := by decide +kernel
theorem dX12_mayBeDone_41 : decode cX12_mayBeDone 41 = .ok (.return_, 1) := by decide +kernel
theorem dX12_mayBeDone_42 : decode cX12_mayBeDone 42 = .ok (.iload_n 2, 1) := by decide +kernel
theorem dX12_mayBeDone_43 : decode cX12_mayBeDone 43 = .ok (.ifCond .ne 9, 3) := by decide +kernel
theorem dX12_mayBeDone_46 : decode cX12_mayBeDone 46 = .ok (.aload_n 0, 1) := by decide +kernel
theorem dX12_mayBeDone_47 : decode cX12_mayBeDone 47 = .ok (.iload_n 1, 1) := by decide +kernel
theorem dX12_mayBeDone_48 : decode cX12_mayBeDone 48 = .ok (.invokevirtual 438, 3) := by decide +kernel
theorem dX12_mayBeDone_51 : decode cX12_mayBeDone 51 = .ok (.return_, 1) := by decide +kernel
theorem dX12_mayBeDone_52 : decode cX12_mayBeDone 52 = .ok (.aload_n 0, 1) := by decide +kernel
theorem dX12_mayBeDone_53 : decode cX12_mayBeDone 53 = .ok (.iload_n 1, 1) := by decide +kernel
theorem dX12_mayBeDone_54 : decode cX12_mayBeDone 54 = .ok (.sipush 255, 3) := by decide +kernel
theorem dX12_mayBeDone_57 : decode cX12_mayBeDone 57 = .ok (.aload_n 0, 1) := by decide +kernel
theorem dX12_mayBeDone_58 : decode cX12_mayBeDone 58 = .ok (.getfield 78, 3) := by decide +kernel
theorem dX12_mayBeDone_61 : decode cX12_mayBeDone 61 = .ok (.iload_n 1, 1) := by decide +kernel
theorem dX12_mayBeDone_62 : decode cX12_mayBeDone 62 = .ok (.iaload, 1) := by decide +kernel
theorem dX12_mayBeDone_63 : decode cX12_mayBeDone 63 = .ok (.i2l, 1) := by decide +kernel
theorem dX12_mayBeDone_64 : decode cX12_mayBeDone 64 = .ok (.lconst 1, 1) := by decide +kernel
theorem dX12_mayBeDone_65 : decode cX12_mayBeDone 65 = .ok (.ladd, 1) := by decide +kernel
theorem dX12_mayBeDone_66 : decode cX12_mayBeDone 66 = .ok (.invokevirtual 441, 3) := by decide +kernel
theorem dX12_mayBeDone_69 : decode cX12_mayBeDone 69 = .ok (.iconst 1, 1) := by decide +kernel
theorem dX12_mayBeDone_70 : decode cX12_mayBeDone 70 = .ok (.if_icmp .eq 4, 3) := by decide +kernel
theorem dX12_mayBeDone_73 : decode cX12_mayBeDone 73 = .ok (.return_, 1) := by decide +kernel
theorem dX12_mayBeDone_74 : decode cX12_mayBeDone 74 = .ok (.bipush 8, 2) := by decide +kernel
theorem dX12_mayBeDone_76 : decode cX12_mayBeDone 76 = .ok (.iload_n 1, 1) := by decide +kernel
theorem dX12_mayBeDone_77 : decode cX12_mayBeDone 77 = .ok (.imul, 1) := by decide +kernel
theorem dX12_mayBeDone_78 : decode cX12_mayBeDone 78 = .ok (.istore_n 3, 1) := by decide +kernel
theorem dX12_mayBeDone_79 : decode cX12_mayBeDone 79 = .ok (.iload_n 3, 1) := by decide +kernel
theorem dX12_mayBeDone_80 : decode cX12_mayBeDone 80 = .ok (.bipush 8, 2) := by decide +kernel
theorem dX12_mayBeDone_82 : decode cX12_mayBeDone 82 = .ok (.iload_n 1, 1) := by decide +kernel
theorem dX12_mayBeDone_83 : decode cX12_mayBeDone 83 = .ok (.imul, 1) := by decide +kernel
theorem dX12_mayBeDone_84 : decode cX12_mayBeDone 84 = .ok (.bipush 8, 2) := by decide +kernel
theorem dX12_mayBeDone_86 : decode cX12_mayBeDone 86 = .ok (.iadd, 1) := by decide +kernel
theorem dX12_mayBeDone_87 : decode cX12_mayBeDone 87 = .ok (.if_icmp .ge 48, 3) := by decide +kernel
theorem dX12_mayBeDone_90 : decode cX12_mayBeDone 90 = .ok (.aload_n 0, 1) := by decide +kernel
theorem dX12_mayBeDone_91 : decode cX12_mayBeDone 91 = .ok (.getfield 84, 3) := by decide +kernel
theorem dX12_mayBeDone_94 : decode cX12_mayBeDone 94 = .ok (.iload_n 3, 1) := by decide +kernel
theorem dX12_mayBeDone_95 : decode cX12_mayBeDone 95 = .ok (.aload_n 0, 1) := by decide +kernel
theorem dX12_mayBeDone_96 : decode cX12_mayBeDone 96 = .ok (.getfield 84, 3) := by decide +kernel
theorem dX12_mayBeDone_99 : decode cX12_mayBeDone 99 = .ok (.iload_n 3, 1) := by decide +kernel
theorem dX12_mayBeDone_100 : decode cX12_mayBeDone 100 = .ok (.baload, 1) := by decide +kernel
theorem dX12_mayBeDone_101 : decode cX12_mayBeDone 101 = .ok (.ifCond .eq 16, 3) := by decide +kernel
theorem dX12_mayBeDone_104 : decode cX12_mayBeDone 104 = .ok (.aload_n 0, 1) := by decide +kernel
theorem dX12_mayBeDone_105 : decode cX12_mayBeDone 105 = .ok (.getfield 87, 3) := by decide +kernel
theorem dX12_mayBeDone_108 : decode cX12_mayBeDone 108 = .ok (.iload_n 3, 1) := by decide +kernel
theorem dX12_mayBeDone_109 : decode cX12_mayBeDone 109 = .ok (.baload, 1) := by decide +kernel
theorem dX12_mayBeDone_110 : decode cX12_mayBeDone 110 = .ok (.ifCond .eq 7, 3) := by decide +kernel
theorem dX12_mayBeDone_113 : decode cX12_mayBeDone 113 = .ok (.iconst 1, 1) := by decide +kernel
theorem dX12_mayBeDone_114 : decode cX12_mayBeDone 114 = .ok (.goto 4, 3) := by decide +kernel
theorem dX12_mayBeDone_117 : decode cX12_mayBeDone 117 = .ok (.iconst 0, 1) := by decide +kernel
theorem dX12_mayBeDone_118 : decode cX12_mayBeDone 118 = .ok (.bastore, 1) := by decide +kernel
theorem dX12_mayBeDone_119 : decode cX12_mayBeDone 119 = .ok (.aload_n 0, 1) := by decide +kernel
theorem dX12_mayBeDone_120 : decode cX12_mayBeDone 120 = .ok (.getfield 90, 3) := by decide +kernel
theorem dX12_mayBeDone_123 : decode cX12_mayBeDone 123 = .ok (.iload_n 3, 1) := by decide +kernel
theorem dX12_mayBeDone_124 : decode cX12_mayBeDone 124 = .ok (.aload_n 0, 1) := by decide +kernel
theorem dX12_mayBeDone_125 : decode cX12_mayBeDone 125 = .ok (.getfield 401, 3) := by decide +kernel
theorem dX12_mayBeDone_128 : decode cX12_mayBeDone 128 = .ok (.iastore, 1) := by decide +kernel
theorem dX12_mayBeDone_129 : decode cX12_mayBeDone 129 = .ok (.iinc 3 1, 3) := by decide +kernel
theorem dX12_mayBeDone_132 : decode cX12_mayBeDone 132 = .ok (.goto (-53), 3) := by decide +kernel
theorem dX12_mayBeDone_135 : decode cX12_mayBeDone 135 = .ok (.aload_n 0, 1) := by decide +kernel
theorem dX12_mayBeDone_136 : decode cX12_mayBeDone 136 = .ok (.getfield 78, 3) := by decide +kernel
theorem dX12_mayBeDone_139 : decode cX12_mayBeDone 139 = .ok (.iload_n 1, 1) := by decide +kernel
theorem dX12_mayBeDone_140 : decode cX12_mayBeDone 140 = .ok (.dup2, 1) := by decide +kernel
theorem dX12_mayBeDone_141 : decode cX12_mayBeDone 141 = .ok (.iaload, 1) := by decide +kernel
theorem dX12_mayBeDone_142 : decode cX12_mayBeDone 142 = .ok (.iconst 1, 1) := by decide +kernel
theorem dX12_mayBeDone_143 : decode cX12_mayBeDone 143 = .ok (.iadd, 1) := by decide +kernel
theorem dX12_mayBeDone_144 : decode cX12_mayBeDone 144 = .ok (.iastore, 1) := by decide +kernel
theorem dX12_mayBeDone_145 : decode cX12_mayBeDone 145 = .ok (.aload_n 0, 1) := by decide +kernel
theorem dX12_mayBeDone_146 : decode cX12_mayBeDone 146 = .ok (.getfield 75, 3) := by decide +kernel
theorem dX12_mayBeDone_149 : decode cX12_mayBeDone 149 = .ok (.iload_n 1, 1) := by decide +kernel
theorem dX12_mayBeDone_150 : decode cX12_mayBeDone 150 = .ok (.iconst 2, 1) := by decide +kernel
theorem dX12_mayBeDone_151 : decode cX12_mayBeDone 151 = .ok (.iastore, 1) := by decide +kernel
theorem dX12_mayBeDone_152 : decode cX12_mayBeDone 152 = .ok (.return_, 1) := by decide +kernel
theorem dX12_without_0 : decode cX12_without 0 = .ok (.aload_n 0, 1) := by decide +kernel
theorem dX12_without_1 : decode cX12_without 1 = .ok (.iload_n 1, 1) := by decide +kernel
theorem dX12_without_2 : decode cX12_without 2 = .ok (.iconst 0, 1) := by decide +kernel
theorem dX12_without_3 : decode cX12_without 3 = .ok (.invokevirtual 434, 3) := by decide +kernel
theorem dX12_without_6 : decode cX12_without 6 = .ok (.ifCond .ne 11, 3) := by decide +kernel
theorem dX12_without_9 : decode cX12_without 9 = .ok (.aload_n 0, 1) := by decide +kernel
theorem dX12_without_10 : decode cX12_without 10 = .ok (.iload_n 1, 1) := by decide +kernel
theorem dX12_without_11 : decode cX12_without 11 = .ok (.invokevirtual 438, 3) := by decide +kernel
theorem dX12_without_14 : decode cX12_without 14 = .ok (.goto 18, 3) := by decide +kernel
theorem dX12_without_17 : decode cX12_without 17 = .ok (.aload_n 0, 1) := by decide +kernel
theorem dX12_without_18 : decode cX12_without 18 = .ok (.getfield 75, 3) := by decide +kernel
theorem dX12_without_21 : decode cX12_without 21 = .ok (.iload_n 1, 1) := by decide +kernel
theorem dX12_without_22 : decode cX12_without 22 = .ok (.iaload, 1) := by decide +kernel
theorem dX12_without_23 : decode cX12_without 23 = .ok (.iconst 2, 1) := by decide +kernel
theorem dX12_without_24 : decode cX12_without 24 = .ok (.if_icmp .ne 8, 3) := by decide +kernel
theorem dX12_without_27 : decode cX12_without 27 = .ok (.aload_n 0, 1) := by decide +kernel
theorem dX12_without_28 : decode cX12_without 28 = .ok (.iload_n 1, 1) := by decide +kernel
theorem dX12_without_29 : decode cX12_without 29 = .ok (.invokevirtual 445, 3) := by decide +kernel
theorem dX12_without_32 : decode cX12_without 32 = .ok (.return_, 1) := by decide +kernel
theorem dX12_join_0 : decode cX12_join 0 = .ok (.aload_n 0, 1) := by decide +kernel
theorem dX12_join_1 : decode cX12_join 1 = .ok (.iload_n 1, 1) := by decide +kernel
theorem dX12_join_2 : decode cX12_join 2 = .ok (.invokestatic 448, 3) := by decide +kernel
theorem dX12_join_5 : decode cX12_join 5 = .ok (.ifCond .eq 14, 3) := by decide +kernel
theorem dX12_join_8 : decode cX12_join 8 = .ok (.iload_n 2, 1) := by decide +kernel
theorem dX12_join_9 : decode cX12_join 9 = .ok (.invokestatic 448, 3) := by decide +kernel
theorem dX12_join_12 : decode cX12_join 12 = .ok (.ifCond .eq 7, 3) := by decide +kernel
theorem dX12_join_15 : decode cX12_join 15 = .ok (.iconst 1, 1) := by decide +kernel
theorem dX12_join_16 : decode cX12_join 16 = .ok (.goto 4, 3) := by decide +kernel
theorem dX12_join_19 : decode cX12_join 19 = .ok (.iconst 0, 1) := by decide +kernel
theorem dX12_join_20 : decode cX12_join 20 = .ok (.invokevirtual 361, 3) := by decide +kernel
theorem dX12_join_23 : decode cX12_join 23 = .ok (.ifCond .ne 5, 3) := by decide +kernel
theorem dX12_join_26 : decode cX12_join 26 = .ok (.iconst 0, 1) := by decide +kernel
theorem dX12_join_27 : decode cX12_join 27 = .ok (.ireturn, 1) := by decide +kernel
theorem dX12_join_28 : decode cX12_join 28 = .ok (.aload_n 0, 1) := by decide +kernel
theorem dX12_join_29 : decode cX12_join 29 = .ok (.getfield 84, 3) := by decide +kernel
theorem dX12_join_32 : decode cX12_join 32 = .ok (.bipush 8, 2) := by decide +kernel
theorem dX12_join_34 : decode cX12_join 34 = .ok (.iload_n 1, 1) := by decide +kernel
theorem dX12_join_35 : decode cX12_join 35 = .ok (.imul, 1) := by decide +kernel
theorem dX12_join_36 : decode cX12_join 36 = .ok (.iload_n 2, 1) := by decide +kernel
theorem dX12_join_37 : decode cX12_join 37 = .ok (.iadd, 1) := by decide +kernel
theorem dX12_join_38 : decode cX12_join 38 = .ok (.iconst 1, 1) := by decide +kernel
theorem dX12_join_39 : decode cX12_join 39 = .ok (.bastore, 1) := by decide +kernel
theorem dX12_join_40 : decode cX12_join 40 = .ok (.aload_n 0, 1) := by decide +kernel
theorem dX12_join_41 : decode cX12_join 41 = .ok (.getfield 75, 3) := by decide +kernel
theorem dX12_join_44 : decode cX12_join 44 = .ok (.iload_n 1, 1) := by decide +kernel
theorem dX12_join_45 : decode cX12_join 45 = .ok (.iaload, 1) := by decide +kernel
theorem dX12_join_46 : decode cX12_join 46 = .ok (.iconst 1, 1) := by decide +kernel
theorem dX12_join_47 : decode cX12_join 47 = .ok (.if_icmp .eq 8, 3) := by decide +kernel
theorem dX12_join_50 : decode cX12_join 50 = .ok (.aload_n 0, 1) := by decide +kernel
theorem dX12_join_51 : decode cX12_join 51 = .ok (.iload_n 1, 1) := by decide +kernel
theorem dX12_join_52 : decode cX12_join 52 = .ok (.invokevirtual 445, 3) := by decide +kernel
theorem dX12_join_55 : decode cX12_join 55 = .ok (.aload_n 0, 1) := by decide +kernel
theorem dX12_join_56 : decode cX12_join 56 = .ok (.getfield 87, 3) := by decide +kernel
theorem dX12_join_59 : decode cX12_join 59 = .ok (.bipush 8, 2) := by decide +kernel
theorem dX12_join_61 : decode cX12_join 61 = .ok (.iload_n 1, 1) := by decide +kernel
theorem dX12_join_62 : decode cX12_join 62 = .ok (.imul, 1) := by decide +kernel
theorem dX12_join_63 : decode cX12_join 63 = .ok (.iload_n 2, 1) := by decide +kernel
theorem dX12_join_64 : decode cX12_join 64 = .ok (.iadd, 1) := by decide +kernel
theorem dX12_join_65 : decode cX12_join 65 = .ok (.iconst 1, 1) := by decide +kernel
theorem dX12_join_66 : decode cX12_join 66 = .ok (.bastore, 1) := by decide +kernel
theorem dX12_join_67 : decode cX12_join 67 = .ok (.aload_n 0, 1) := by decide +kernel
theorem dX12_join_68 : decode cX12_join 68 = .ok (.getfield 90, 3) := by decide +kernel
theorem dX12_join_71 : decode cX12_join 71 = .ok (.bipush 8, 2) := by decide +kernel
theorem dX12_join_73 : decode cX12_join 73 = .ok (.iload_n 1, 1) := by decide +kernel
theorem dX12_join_74 : decode cX12_join 74 = .ok (.imul, 1) := by decide +kernel
theorem dX12_join_75 : decode cX12_join 75 = .ok (.iload_n 2, 1) := by decide +kernel
theorem dX12_join_76 : decode cX12_join 76 = .ok (.iadd, 1) := by decide +kernel
theorem dX12_join_77 : decode cX12_join 77 = .ok (.aload_n 0, 1) := by decide +kernel
theorem dX12_join_78 : decode cX12_join 78 = .ok (.getfield 401, 3) := by decide +kernel
theorem dX12_join_81 : decode cX12_join 81 = .ok (.iastore, 1) := by decide +kernel
theorem dX12_join_82 : decode cX12_join 82 = .ok (.aload_n 0, 1) := by decide +kernel
theorem dX12_join_83 : decode cX12_join 83 = .ok (.iload_n 1, 1) := by decide +kernel
theorem dX12_join_84 : decode cX12_join 84 = .ok (.invokevirtual 451, 3) := by decide +kernel
theorem dX12_join_87 : decode cX12_join 87 = .ok (.aload_n 0, 1) := by decide +kernel
theorem dX12_join_88 : decode cX12_join 88 = .ok (.getfield 286, 3) := by decide +kernel
theorem dX12_join_91 : decode cX12_join 91 = .ok (.ifCond .eq 8, 3) := by decide +kernel
theorem dX12_join_94 : decode cX12_join 94 = .ok (.bipush (-3), 2) := by decide +kernel
theorem dX12_join_96 : decode cX12_join 96 = .ok (.goto 23, 3) := by decide +kernel
theorem dX12_join_99 : decode cX12_join 99 = .ok (.aload_n 0, 1) := by decide +kernel
theorem dX12_join_100 : decode cX12_join 100 = .ok (.getfield 75, 3) := by decide +kernel
theorem dX12_join_103 : decode cX12_join 103 = .ok (.iload_n 1, 1) := by decide +kernel
theorem dX12_join_104 : decode cX12_join 104 = .ok (.iaload, 1) := by decide +kernel
theorem dX12_join_105 : decode cX12_join 105 = .ok (.iconst 2, 1) := by decide +kernel
theorem dX12_join_106 : decode cX12_join 106 = .ok (.if_icmp .ne 12, 3) := by decide +kernel
theorem dX12_join_109 : decode cX12_join 109 = .ok (.aload_n 0, 1) := by decide +kernel
theorem dX12_join_110 : decode cX12_join 110 = .ok (.getfield 78, 3) := by decide +kernel
theorem dX12_join_113 : decode cX12_join 113 = .ok (.iload_n 1, 1) := by decide +kernel
theorem dX12_join_114 : decode cX12_join 114 = .ok (.iaload, 1) := by decide +kernel
theorem dX12_join_115 : decode cX12_join 115 = .ok (.goto 4, 3) := by decide +kernel
theorem dX12_join_118 : decode cX12_join 118 = .ok (.iconst (-1), 1) := by decide +kernel
theorem dX12_join_119 : decode cX12_join 119 = .ok (.ireturn, 1) := by decide +kernel
theorem dX12_leave_0 : decode cX12_leave 0 = .ok (.aload_n 0, 1) := by decide +kernel
theorem dX12_leave_1 : decode cX12_leave 1 = .ok (.iload_n 1, 1) := by decide +kernel
theorem dX12_leave_2 : decode cX12_leave 2 = .ok (.invokestatic 448, 3) := by decide +kernel
theorem dX12_leave_5 : decode cX12_leave 5 = .ok (.ifCond .eq 14, 3) := by decide +kernel
theorem dX12_leave_8 : decode cX12_leave 8 = .ok (.iload_n 2, 1) := by decide +kernel
theorem dX12_leave_9 : decode cX12_leave 9 = .ok (.invokestatic 448, 3) := by decide +kernel
theorem dX12_leave_12 : decode cX12_leave 12 = .ok (.ifCond .eq 7, 3) := by decide +kernel
theorem dX12_leave_15 : decode cX12_leave 15 = .ok (.iconst 1, 1) := by decide +kernel
theorem dX12_leave_16 : decode cX12_leave 16 = .ok (.goto 4, 3) := by decide +kernel
theorem dX12_leave_19 : decode cX12_leave 19 = .ok (.iconst 0, 1) := by decide +kernel
theorem dX12_leave_20 : decode cX12_leave 20 = .ok (.invokevirtual 361, 3) := by decide +kernel
theorem dX12_leave_23 : decode cX12_leave 23 = .ok (.ifCond .ne 5, 3) := by decide +kernel
theorem dX12_leave_26 : decode cX12_leave 26 = .ok (.iconst 0, 1) := by decide +kernel
theorem dX12_leave_27 : decode cX12_leave 27 = .ok (.ireturn, 1) := by decide +kernel
theorem dX12_leave_28 : decode cX12_leave 28 = .ok (.aload_n 0, 1) := by decide +kernel
theorem dX12_leave_29 : decode cX12_leave 29 = .ok (.getfield 84, 3) := by decide +kernel
theorem dX12_leave_32 : decode cX12_leave 32 = .ok (.bipush 8, 2) := by decide +kernel
theorem dX12_leave_34 : decode cX12_leave 34 = .ok (.iload_n 1, 1) := by decide +kernel
theorem dX12_leave_35 : decode cX12_leave 35 = .ok (.imul, 1) := by decide +kernel
theorem dX12_leave_36 : decode cX12_leave 36 = .ok (.iload_n 2, 1) := by decide +kernel
theorem dX12_leave_37 : decode cX12_leave 37 = .ok (.iadd, 1) := by decide +kernel
theorem dX12_leave_38 : decode cX12_leave 38 = .ok (.baload, 1) := by decide +kernel
theorem dX12_leave_39 : decode cX12_leave 39 = .ok (.ifCond .ne 6, 3) := by decide +kernel
theorem dX12_leave_42 : decode cX12_leave 42 = .ok (.bipush (-8), 2) := by decide +kernel
theorem dX12_leave_44 : decode cX12_leave 44 = .ok (.ireturn, 1) := by decide +kernel
theorem dX12_leave_45 : decode cX12_leave 45 = .ok (.aload_n 0, 1) := by decide +kernel
theorem dX12_leave_46 : decode cX12_leave 46 = .ok (.getfield 84, 3) := by decide +kernel
theorem dX12_leave_49 : decode cX12_leave 49 = .ok (.bipush 8, 2) := by decide +kernel
theorem dX12_leave_51 : decode cX12_leave 51 = .ok (.iload_n 1, 1) := by decide +kernel
theorem dX12_leave_52 : decode cX12_leave 52 = .ok (.imul, 1) := by decide +kernel
theorem dX12_leave_53 : decode cX12_leave 53 = .ok (.iload_n 2, 1) := by decide +kernel
theorem dX12_leave_54 : decode cX12_leave 54 = .ok (.iadd, 1) := by decide +kernel
theorem dX12_leave_55 : decode cX12_leave 55 = .ok (.iconst 0, 1) := by decide +kernel
theorem dX12_leave_56 : decode cX12_leave 56 = .ok (.bastore, 1) := by decide +kernel
theorem dX12_leave_57 : decode cX12_leave 57 = .ok (.aload_n 0, 1) := by decide +kernel
theorem dX12_leave_58 : decode cX12_leave 58 = .ok (.getfield 87, 3) := by decide +kernel
theorem dX12_leave_61 : decode cX12_leave 61 = .ok (.bipush 8, 2) := by decide +kernel
theorem dX12_leave_63 : decode cX12_leave 63 = .ok (.iload_n 1, 1) := by decide +kernel
theorem dX12_leave_64 : decode cX12_leave 64 = .ok (.imul, 1) := by decide +kernel
theorem dX12_leave_65 : decode cX12_leave 65 = .ok (.iload_n 2, 1) := by decide +kernel
theorem dX12_leave_66 : decode cX12_leave 66 = .ok (.iadd, 1) := by decide +kernel
theorem dX12_leave_67 : decode cX12_leave 67 = .ok (.iconst 0, 1) := by decide +kernel
theorem dX12_leave_68 : decode cX12_leave 68 = .ok (.bastore, 1) := by decide +kernel
theorem dX12_leave_69 : decode cX12_leave 69 = .ok (.aload_n 0, 1) := by decide +kernel
theorem dX12_leave_70 : decode cX12_leave 70 = .ok (.iload_n 1, 1) := by decide +kernel
theorem dX12_leave_71 : decode cX12_leave 71 = .ok (.invokevirtual 454, 3) := by decide +kernel
theorem dX12_leave_74 : decode cX12_leave 74 = .ok (.aload_n 0, 1) := by decide +kernel
theorem dX12_leave_75 : decode cX12_leave 75 = .ok (.iload_n 1, 1) := by decide +kernel
theorem dX12_leave_76 : decode cX12_leave 76 = .ok (.invokevirtual 451, 3) := by decide +kernel
theorem dX12_leave_79 : decode cX12_leave 79 = .ok (.aload_n 0, 1) := by decide +kernel
theorem dX12_leave_80 : decode cX12_leave 80 = .ok (.getfield 286, 3) := by decide +kernel
theorem dX12_leave_83 : decode cX12_leave 83 = .ok (.ifCond .eq 8, 3) := by decide +kernel
theorem dX12_leave_86 : decode cX12_leave 86 = .ok (.bipush (-3), 2) := by decide +kernel
theorem dX12_leave_88 : decode cX12_leave 88 = .ok (.goto 4, 3) := by decide +kernel
theorem dX12_leave_91 : decode cX12_leave 91 = .ok (.iconst 1, 1) := by decide +kernel
theorem dX12_leave_92 : decode cX12_leave 92 = .ok (.ireturn, 1) := by decide +kernel
theorem dX12_beat_0 : decode cX12_beat 0 = .ok (.aload_n 0, 1) := by decide +kernel
theorem dX12_beat_1 : decode cX12_beat 1 = .ok (.iload_n 1, 1) := by decide +kernel
theorem dX12_beat_2 : decode cX12_beat 2 = .ok (.invokestatic 448, 3) := by decide +kernel
theorem dX12_beat_5 : decode cX12_beat 5 = .ok (.ifCond .eq 14, 3) := by decide +kernel
theorem dX12_beat_8 : decode cX12_beat 8 = .ok (.iload_n 2, 1) := by decide +kernel
theorem dX12_beat_9 : decode cX12_beat 9 = .ok (.invokestatic 448, 3) := by decide +kernel
theorem dX12_beat_12 : decode cX12_beat 12 = .ok (.ifCond .eq 7, 3) := by decide +kernel
theorem dX12_beat_15 : decode cX12_beat 15 = .ok (.iconst 1, 1) := by decide +kernel
theorem dX12_beat_16 : decode cX12_beat 16 = .ok (.goto 4, 3) := by decide +kernel
theorem dX12_beat_19 : decode cX12_beat 19 = .ok (.iconst 0, 1) := by decide +kernel
theorem dX12_beat_20 : decode cX12_beat 20 = .ok (.invokevirtual 361, 3) := by decide +kernel
theorem dX12_beat_23 : decode cX12_beat 23 = .ok (.ifCond .ne 5, 3) := by decide +kernel
theorem dX12_beat_26 : decode cX12_beat 26 = .ok (.iconst 0, 1) := by decide +kernel
theorem dX12_beat_27 : decode cX12_beat 27 = .ok (.ireturn, 1) := by decide +kernel
theorem dX12_beat_28 : decode cX12_beat 28 = .ok (.aload_n 0, 1) := by decide +kernel
theorem dX12_beat_29 : decode cX12_beat 29 = .ok (.getfield 84, 3) := by decide +kernel
theorem dX12_beat_32 : decode cX12_beat 32 = .ok (.bipush 8, 2) := by decide +kernel
theorem dX12_beat_34 : decode cX12_beat 34 = .ok (.iload_n 1, 1) := by decide +kernel
theorem dX12_beat_35 : decode cX12_beat 35 = .ok (.imul, 1) := by decide +kernel
theorem dX12_beat_36 : decode cX12_beat 36 = .ok (.iload_n 2, 1) := by decide +kernel
theorem dX12_beat_37 : decode cX12_beat 37 = .ok (.iadd, 1) := by decide +kernel
theorem dX12_beat_38 : decode cX12_beat 38 = .ok (.baload, 1) := by decide +kernel
theorem dX12_beat_39 : decode cX12_beat 39 = .ok (.ifCond .eq 13, 3) := by decide +kernel
theorem dX12_beat_42 : decode cX12_beat 42 = .ok (.iload_n 3, 1) := by decide +kernel
theorem dX12_beat_43 : decode cX12_beat 43 = .ok (.aload_n 0, 1) := by decide +kernel
theorem dX12_beat_44 : decode cX12_beat 44 = .ok (.getfield 78, 3) := by decide +kernel
theorem dX12_beat_47 : decode cX12_beat 47 = .ok (.iload_n 1, 1) := by decide +kernel
theorem dX12_beat_48 : decode cX12_beat 48 = .ok (.iaload, 1) := by decide +kernel
theorem dX12_beat_49 : decode cX12_beat 49 = .ok (.if_icmp .eq 25, 3) := by decide +kernel
theorem dX12_beat_52 : decode cX12_beat 52 = .ok (.aload_n 0, 1) := by decide +kernel
theorem dX12_beat_53 : decode cX12_beat 53 = .ok (.getfield 84, 3) := by decide +kernel
theorem dX12_beat_56 : decode cX12_beat 56 = .ok (.bipush 8, 2) := by decide +kernel
theorem dX12_beat_58 : decode cX12_beat 58 = .ok (.iload_n 1, 1) := by decide +kernel
theorem dX12_beat_59 : decode cX12_beat 59 = .ok (.imul, 1) := by decide +kernel
theorem dX12_beat_60 : decode cX12_beat 60 = .ok (.iload_n 2, 1) := by decide +kernel
theorem dX12_beat_61 : decode cX12_beat 61 = .ok (.iadd, 1) := by decide +kernel
theorem dX12_beat_62 : decode cX12_beat 62 = .ok (.baload, 1) := by decide +kernel
theorem dX12_beat_63 : decode cX12_beat 63 = .ok (.ifCond .eq 8, 3) := by decide +kernel
theorem dX12_beat_66 : decode cX12_beat 66 = .ok (.bipush (-9), 2) := by decide +kernel
theorem dX12_beat_68 : decode cX12_beat 68 = .ok (.goto 5, 3) := by decide +kernel
theorem dX12_beat_71 : decode cX12_beat 71 = .ok (.bipush (-8), 2) := by decide +kernel
theorem dX12_beat_73 : decode cX12_beat 73 = .ok (.ireturn, 1) := by decide +kernel
theorem dX12_beat_74 : decode cX12_beat 74 = .ok (.aload_n 0, 1) := by decide +kernel
theorem dX12_beat_75 : decode cX12_beat 75 = .ok (.getfield 90, 3) := by decide +kernel
theorem dX12_beat_78 : decode cX12_beat 78 = .ok (.bipush 8, 2) := by decide +kernel
theorem dX12_beat_80 : decode cX12_beat 80 = .ok (.iload_n 1, 1) := by decide +kernel
theorem dX12_beat_81 : decode cX12_beat 81 = .ok (.imul, 1) := by decide +kernel
theorem dX12_beat_82 : decode cX12_beat 82 = .ok (.iload_n 2, 1) := by decide +kernel
theorem dX12_beat_83 : decode cX12_beat 83 = .ok (.iadd, 1) := by decide +kernel
theorem dX12_beat_84 : decode cX12_beat 84 = .ok (.aload_n 0, 1) := by decide +kernel
theorem dX12_beat_85 : decode cX12_beat 85 = .ok (.getfield 401, 3) := by decide +kernel
theorem dX12_beat_88 : decode cX12_beat 88 = .ok (.iastore, 1) := by decide +kernel
theorem dX12_beat_89 : decode cX12_beat 89 = .ok (.aload_n 0, 1) := by decide +kernel
theorem dX12_beat_90 : decode cX12_beat 90 = .ok (.getfield 75, 3) := by decide +kernel
theorem dX12_beat_93 : decode cX12_beat 93 = .ok (.iload_n 1, 1) := by decide +kernel
theorem dX12_beat_94 : decode cX12_beat 94 = .ok (.iaload, 1) := by decide +kernel
theorem dX12_beat_95 : decode cX12_beat 95 = .ok (.iconst 1, 1) := by decide +kernel
theorem dX12_beat_96 : decode cX12_beat 96 = .ok (.if_icmp .ne 21, 3) := by decide +kernel
theorem dX12_beat_99 : decode cX12_beat 99 = .ok (.aload_n 0, 1) := by decide +kernel
theorem dX12_beat_100 : decode cX12_beat 100 = .ok (.getfield 87, 3) := by decide +kernel
theorem dX12_beat_103 : decode cX12_beat 103 = .ok (.bipush 8, 2) := by decide +kernel
theorem dX12_beat_105 : decode cX12_beat 105 = .ok (.iload_n 1, 1) := by decide +kernel
theorem dX12_beat_106 : decode cX12_beat 106 = .ok (.imul, 1) := by decide +kernel
theorem dX12_beat_107 : decode cX12_beat 107 = .ok (.iload_n 2, 1) := by decide +kernel
theorem dX12_beat_108 : decode cX12_beat 108 = .ok (.iadd, 1) := by decide +kernel
theorem dX12_beat_109 : decode cX12_beat 109 = .ok (.baload, 1) := by decide +kernel
theorem dX12_beat_110 : decode cX12_beat 110 = .ok (.ifCond .ne 7, 3) := by decide +kernel
theorem dX12_beat_113 : decode cX12_beat 113 = .ok (.iconst 1, 1) := by decide +kernel
theorem dX12_beat_114 : decode cX12_beat 114 = .ok (.goto 4, 3) := by decide +kernel
theorem dX12_beat_117 : decode cX12_beat 117 = .ok (.iconst 0, 1) := by decide +kernel
theorem dX12_beat_118 : decode cX12_beat 118 = .ok (.ireturn, 1) := by decide +kernel
theorem dX12_owner_0 : decode cX12_owner 0 = .ok (.iconst (-1), 1) := by decide +kernel
theorem dX12_owner_1 : decode cX12_owner 1 = .ok (.istore_n 3, 1) := by decide +kernel
theorem dX12_owner_2 : decode cX12_owner 2 = .ok (.iconst 0, 1) := by decide +kernel
theorem dX12_owner_3 : decode cX12_owner 3 = .ok (.istore 4, 2) := by decide +kernel
theorem dX12_owner_5 : decode cX12_owner 5 = .ok (.iload 4, 2) := by decide +kernel
theorem dX12_owner_7 : decode cX12_owner 7 = .ok (.iload_n 2, 1) := by decide +kernel
theorem dX12_owner_8 : decode cX12_owner 8 = .ok (.if_icmp .gt 35, 3) := by decide +kernel
theorem dX12_owner_11 : decode cX12_owner 11 = .ok (.iinc 3 1, 3) := by decide +kernel
theorem dX12_owner_14 : decode cX12_owner 14 = .ok (.aload_n 0, 1) := by decide +kernel
theorem dX12_owner_15 : decode cX12_owner 15 = .ok (.getfield 84, 3) := by decide +kernel
theorem dX12_owner_18 : decode cX12_owner 18 = .ok (.bipush 8, 2) := by decide +kernel
theorem dX12_owner_20 : decode cX12_owner 20 = .ok (.iload_n 1, 1) := by decide +kernel
theorem dX12_owner_21 : decode cX12_owner 21 = .ok (.imul, 1) := by decide +kernel
theorem dX12_owner_22 : decode cX12_owner 22 = .ok (.iload_n 3, 1) := by decide +kernel
theorem dX12_owner_23 : decode cX12_owner 23 = .ok (.bipush 8, 2) := by decide +kernel
theorem dX12_owner_25 : decode cX12_owner 25 = .ok (.irem, 1) := by decide +kernel
theorem dX12_owner_26 : decode cX12_owner 26 = .ok (.iadd, 1) := by decide +kernel
theorem dX12_owner_27 : decode cX12_owner 27 = .ok (.baload, 1) := by decide +kernel
theorem dX12_owner_28 : decode cX12_owner 28 = .ok (.ifCond .ne 9, 3) := by decide +kernel
theorem dX12_owner_31 : decode cX12_owner 31 = .ok (.iinc 3 1, 3) := by decide +kernel
theorem dX12_owner_34 : decode cX12_owner 34 = .ok (.goto (-20), 3) := by decide +kernel
theorem dX12_owner_37 : decode cX12_owner 37 = .ok (.iinc 4 1, 3) := by decide +kernel
theorem dX12_owner_40 : decode cX12_owner 40 = .ok (.goto (-35), 3) := by decide +kernel
theorem dX12_owner_43 : decode cX12_owner 43 = .ok (.iload_n 3, 1) := by decide +kernel
theorem dX12_owner_44 : decode cX12_owner 44 = .ok (.bipush 8, 2) := by decide +kernel
theorem dX12_owner_46 : decode cX12_owner 46 = .ok (.irem, 1) := by decide +kernel
theorem dX12_owner_47 : decode cX12_owner 47 = .ok (.ireturn, 1) := by decide +kernel
theorem dX12_commit_0 : decode cX12_commit 0 = .ok (.aload_n 0, 1) := by decide +kernel
theorem dX12_commit_1 : decode cX12_commit 1 = .ok (.iload_n 1, 1) := by decide +kernel
theorem dX12_commit_2 : decode cX12_commit 2 = .ok (.invokestatic 448, 3) := by decide +kernel
theorem dX12_commit_5 : decode cX12_commit 5 = .ok (.ifCond .eq 28, 3) := by decide +kernel
theorem dX12_commit_8 : decode cX12_commit 8 = .ok (.iload_n 2, 1) := by decide +kernel
theorem dX12_commit_9 : decode cX12_commit 9 = .ok (.invokestatic 448, 3) := by decide +kernel
theorem dX12_commit_12 : decode cX12_commit 12 = .ok (.ifCond .eq 21, 3) := by decide +kernel
theorem dX12_commit_15 : decode cX12_commit 15 = .ok (.iload 4, 2) := by decide +kernel
theorem dX12_commit_17 : decode cX12_commit 17 = .ok (.ifCond .lt 16, 3) := by decide +kernel
theorem dX12_commit_20 : decode cX12_commit 20 = .ok (.iload 4, 2) := by decide +kernel
theorem dX12_commit_22 : decode cX12_commit 22 = .ok (.aload_n 0, 1) := by decide +kernel
theorem dX12_commit_23 : decode cX12_commit 23 = .ok (.getfield 136, 3) := by decide +kernel
theorem dX12_commit_26 : decode cX12_commit 26 = .ok (.if_icmp .ge 7, 3) := by decide +kernel
theorem dX12_commit_29 : decode cX12_commit 29 = .ok (.iconst 1, 1) := by decide +kernel
theorem dX12_commit_30 : decode cX12_commit 30 = .ok (.goto 4, 3) := by decide +kernel
theorem dX12_commit_33 : decode cX12_commit 33 = .ok (.iconst 0, 1) := by decide +kernel
theorem dX12_commit_34 : decode cX12_commit 34 = .ok (.invokevirtual 361, 3) := by decide +kernel
theorem dX12_commit_37 : decode cX12_commit 37 = .ok (.ifCond .ne 5, 3) := by decide +kernel
theorem dX12_commit_40 : decode cX12_commit 40 = .ok (.iconst 0, 1) := by decide +kernel
theorem dX12_commit_41 : decode cX12_commit 41 = .ok (.ireturn, 1) := by decide +kernel
theorem dX12_commit_42 : decode cX12_commit 42 = .ok (.aload_n 0, 1) := by decide +kernel
theorem dX12_commit_43 : decode cX12_commit 43 = .ok (.getfield 84, 3) := by decide +kernel
theorem dX12_commit_46 : decode cX12_commit 46 = .ok (.bipush 8, 2) := by decide +kernel
theorem dX12_commit_48 : decode cX12_commit 48 = .ok (.iload_n 1, 1) := by decide +kernel
theorem dX12_commit_49 : decode cX12_commit 49 = .ok (.imul, 1) := by decide +kernel
theorem dX12_commit_50 : decode cX12_commit 50 = .ok (.iload_n 2, 1) := by decide +kernel
theorem dX12_commit_51 : decode cX12_commit 51 = .ok (.iadd, 1) := by decide +kernel
theorem dX12_commit_52 : decode cX12_commit 52 = .ok (.baload, 1) := by decide +kernel
theorem dX12_commit_53 : decode cX12_commit 53 = .ok (.ifCond .ne 6, 3) := by decide +kernel
theorem dX12_commit_56 : decode cX12_commit 56 = .ok (.bipush (-8), 2) := by decide +kernel
theorem dX12_commit_58 : decode cX12_commit 58 = .ok (.ireturn, 1) := by decide +kernel
theorem dX12_commit_59 : decode cX12_commit 59 = .ok (.iload_n 3, 1) := by decide +kernel
theorem dX12_commit_60 : decode cX12_commit 60 = .ok (.aload_n 0, 1) := by decide +kernel
theorem dX12_commit_61 : decode cX12_commit 61 = .ok (.getfield 78, 3) := by decide +kernel
theorem dX12_commit_64 : decode cX12_commit 64 = .ok (.iload_n 1, 1) := by decide +kernel
theorem dX12_commit_65 : decode cX12_commit 65 = .ok (.iaload, 1) := by decide +kernel
theorem dX12_commit_66 : decode cX12_commit 66 = .ok (.if_icmp .eq 6, 3) := by decide +kernel
theorem dX12_commit_69 : decode cX12_commit 69 = .ok (.bipush (-9), 2) := by decide +kernel
theorem dX12_commit_71 : decode cX12_commit 71 = .ok (.ireturn, 1) := by decide +kernel
theorem dX12_commit_72 : decode cX12_commit 72 = .ok (.aload_n 0, 1) := by decide +kernel
theorem dX12_commit_73 : decode cX12_commit 73 = .ok (.getfield 75, 3) := by decide +kernel
theorem dX12_commit_76 : decode cX12_commit 76 = .ok (.iload_n 1, 1) := by decide +kernel
theorem dX12_commit_77 : decode cX12_commit 77 = .ok (.iaload, 1) := by decide +kernel
theorem dX12_commit_78 : decode cX12_commit 78 = .ok (.iconst 2, 1) := by decide +kernel
theorem dX12_commit_79 : decode cX12_commit 79 = .ok (.if_icmp .eq 6, 3) := by decide +kernel
theorem dX12_commit_82 : decode cX12_commit 82 = .ok (.bipush (-10), 2) := by decide +kernel
theorem dX12_commit_84 : decode cX12_commit 84 = .ok (.ireturn, 1) := by decide +kernel
theorem dX12_commit_85 : decode cX12_commit 85 = .ok (.aload_n 0, 1) := by decide +kernel
theorem dX12_commit_86 : decode cX12_commit 86 = .ok (.iload_n 1, 1) := by decide +kernel
theorem dX12_commit_87 : decode cX12_commit 87 = .ok (.iload 4, 2) := by decide +kernel
theorem dX12_commit_89 : decode cX12_commit 89 = .ok (.invokevirtual 457, 3) := by decide +kernel
theorem dX12_commit_92 : decode cX12_commit 92 = .ok (.iload_n 2, 1) := by decide +kernel
theorem dX12_commit_93 : decode cX12_commit 93 = .ok (.if_icmp .eq 6, 3) := by decide +kernel
theorem dX12_commit_96 : decode cX12_commit 96 = .ok (.bipush (-11), 2) := by decide +kernel
theorem dX12_commit_98 : decode cX12_commit 98 = .ok (.ireturn, 1) := by decide +kernel
theorem dX12_commit_99 : decode cX12_commit 99 = .ok (.lload 5, 2) := by decide +kernel
theorem dX12_commit_101 : decode cX12_commit 101 = .ok (.aload_n 0, 1) := by decide +kernel
theorem dX12_commit_102 : decode cX12_commit 102 = .ok (.getfield 52, 3) := by decide +kernel
theorem dX12_commit_105 : decode cX12_commit 105 = .ok (.iload 4, 2) := by decide +kernel
theorem dX12_commit_107 : decode cX12_commit 107 = .ok (.laload, 1) := by decide +kernel
theorem dX12_commit_108 : decode cX12_commit 108 = .ok (.lcmp, 1) := by decide +kernel
theorem dX12_commit_109 : decode cX12_commit 109 = .ok (.ifCond .lt 16, 3) := by decide +kernel
theorem dX12_commit_112 : decode cX12_commit 112 = .ok (.lload 5, 2) := by decide +kernel
theorem dX12_commit_114 : decode cX12_commit 114 = .ok (.aload_n 0, 1) := by decide +kernel
theorem dX12_commit_115 : decode cX12_commit 115 = .ok (.getfield 55, 3) := by decide +kernel
theorem dX12_commit_118 : decode cX12_commit 118 = .ok (.iload 4, 2) := by decide +kernel
theorem dX12_commit_120 : decode cX12_commit 120 = .ok (.laload, 1) := by decide +kernel
theorem dX12_commit_121 : decode cX12_commit 121 = .ok (.lcmp, 1) := by decide +kernel
theorem dX12_commit_122 : decode cX12_commit 122 = .ok (.ifCond .le 6, 3) := by decide +kernel
theorem dX12_commit_125 : decode cX12_commit 125 = .ok (.bipush (-12), 2) := by decide +kernel
theorem dX12_commit_127 : decode cX12_commit 127 = .ok (.ireturn, 1) := by decide +kernel
theorem dX12_commit_128 : decode cX12_commit 128 = .ok (.aload_n 0, 1) := by decide +kernel
theorem dX12_commit_129 : decode cX12_commit 129 = .ok (.iload_n 1, 1) := by decide +kernel
theorem dX12_commit_130 : decode cX12_commit 130 = .ok (.iload 4, 2) := by decide +kernel
theorem dX12_commit_132 : decode cX12_commit 132 = .ok (.lload 5, 2) := by decide +kernel
theorem dX12_commit_134 : decode cX12_commit 134 = .ok (.invokevirtual 441, 3) := by decide +kernel
theorem dX12_commit_137 : decode cX12_commit 137 = .ok (.istore 7, 2) := by decide +kernel
theorem dX12_commit_139 : decode cX12_commit 139 = .ok (.iload 7, 2) := by decide +kernel
theorem dX12_commit_141 : decode cX12_commit 141 = .ok (.iconst 1, 1) := by decide +kernel
theorem dX12_commit_142 : decode cX12_commit 142 = .ok (.if_icmp .eq 6, 3) := by decide +kernel
theorem dX12_commit_145 : decode cX12_commit 145 = .ok (.iload 7, 2) := by decide +kernel
theorem dX12_commit_147 : decode cX12_commit 147 = .ok (.ireturn, 1) := by decide +kernel
theorem dX12_commit_148 : decode cX12_commit 148 = .ok (.aload_n 0, 1) := by decide +kernel
theorem dX12_commit_149 : decode cX12_commit 149 = .ok (.getfield 90, 3) := by decide +kernel
theorem dX12_commit_152 : decode cX12_commit 152 = .ok (.bipush 8, 2) := by decide +kernel
theorem dX12_commit_154 : decode cX12_commit 154 = .ok (.iload_n 1, 1) := by decide +kernel
theorem dX12_commit_155 : decode cX12_commit 155 = .ok (.imul, 1) := by decide +kernel
theorem dX12_commit_156 : decode cX12_commit 156 = .ok (.iload_n 2, 1) := by decide +kernel
theorem dX12_commit_157 : decode cX12_commit 157 = .ok (.iadd, 1) := by decide +kernel
theorem dX12_commit_158 : decode cX12_commit 158 = .ok (.aload_n 0, 1) := by decide +kernel
theorem dX12_commit_159 : decode cX12_commit 159 = .ok (.getfield 401, 3) := by decide +kernel
theorem dX12_commit_162 : decode cX12_commit 162 = .ok (.iastore, 1) := by decide +kernel
theorem dX12_commit_163 : decode cX12_commit 163 = .ok (.iconst 0, 1) := by decide +kernel
theorem dX12_commit_164 : decode cX12_commit 164 = .ok (.ireturn, 1) := by decide +kernel
theorem dX12_committed_0 : decode cX12_committed 0 = .ok (.aload_n 0, 1) := by decide +kernel
theorem dX12_committed_1 : decode cX12_committed 1 = .ok (.iload_n 1, 1) := by decide +kernel
theorem dX12_committed_2 : decode cX12_committed 2 = .ok (.invokestatic 448, 3) := by decide +kernel
theorem dX12_committed_5 : decode cX12_committed 5 = .ok (.ifCond .eq 19, 3) := by decide +kernel
theorem dX12_committed_8 : decode cX12_committed 8 = .ok (.iload_n 2, 1) := by decide +kernel
theorem dX12_committed_9 : decode cX12_committed 9 = .ok (.ifCond .lt 15, 3) := by decide +kernel
theorem dX12_committed_12 : decode cX12_committed 12 = .ok (.iload_n 2, 1) := by decide +kernel
theorem dX12_committed_13 : decode cX12_committed 13 = .ok (.aload_n 0, 1) := by decide +kernel
theorem dX12_committed_14 : decode cX12_committed 14 = .ok (.getfield 136, 3) := by decide +kernel
theorem dX12_committed_17 : decode cX12_committed 17 = .ok (.if_icmp .ge 7, 3) := by decide +kernel
theorem dX12_committed_20 : decode cX12_committed 20 = .ok (.iconst 1, 1) := by decide +kernel
theorem dX12_committed_21 : decode cX12_committed 21 = .ok (.goto 4, 3) := by decide +kernel
theorem dX12_committed_24 : decode cX12_committed 24 = .ok (.iconst 0, 1) := by decide +kernel
theorem dX12_committed_25 : decode cX12_committed 25 = .ok (.invokevirtual 361, 3) := by decide +kernel
theorem dX12_committed_28 : decode cX12_committed 28 = .ok (.ifCond .eq 12, 3) := by decide +kernel
theorem dX12_committed_31 : decode cX12_committed 31 = .ok (.aload_n 0, 1) := by decide +kernel
theorem dX12_committed_32 : decode cX12_committed 32 = .ok (.iload_n 1, 1) := by decide +kernel
theorem dX12_committed_33 : decode cX12_committed 33 = .ok (.iload_n 2, 1) := by decide +kernel
theorem dX12_committed_34 : decode cX12_committed 34 = .ok (.invokevirtual 460, 3) := by decide +kernel
theorem dX12_committed_37 : decode cX12_committed 37 = .ok (.goto 4, 3) := by decide +kernel
theorem dX12_committed_40 : decode cX12_committed 40 = .ok (.lconst 0, 1) := by decide +kernel
theorem dX12_committed_41 : decode cX12_committed 41 = .ok (.lreturn, 1) := by decide +kernel
theorem dX12_group_0 : decode cX12_group 0 = .ok (.aload_n 0, 1) := by decide +kernel
theorem dX12_group_1 : decode cX12_group 1 = .ok (.iload_n 1, 1) := by decide +kernel
theorem dX12_group_2 : decode cX12_group 2 = .ok (.invokestatic 448, 3) := by decide +kernel
theorem dX12_group_5 : decode cX12_group 5 = .ok (.ifCond .eq 16, 3) := by decide +kernel
theorem dX12_group_8 : decode cX12_group 8 = .ok (.iload_n 2, 1) := by decide +kernel
theorem dX12_group_9 : decode cX12_group 9 = .ok (.ifCond .lt 12, 3) := by decide +kernel
theorem dX12_group_12 : decode cX12_group 12 = .ok (.iload_n 2, 1) := by decide +kernel
theorem dX12_group_13 : decode cX12_group 13 = .ok (.iconst 4, 1) := by decide +kernel
theorem dX12_group_14 : decode cX12_group 14 = .ok (.if_icmp .gt 7, 3) := by decide +kernel
theorem dX12_group_17 : decode cX12_group 17 = .ok (.iconst 1, 1) := by decide +kernel
theorem dX12_group_18 : decode cX12_group 18 = .ok (.goto 4, 3) := by decide +kernel
theorem dX12_group_21 : decode cX12_group 21 = .ok (.iconst 0, 1) := by decide +kernel
theorem dX12_group_22 : decode cX12_group 22 = .ok (.invokevirtual 361, 3) := by decide +kernel
theorem dX12_group_25 : decode cX12_group 25 = .ok (.ifCond .ne 5, 3) := by decide +kernel
theorem dX12_group_28 : decode cX12_group 28 = .ok (.iconst 0, 1) := by decide +kernel
theorem dX12_group_29 : decode cX12_group 29 = .ok (.ireturn, 1) := by decide +kernel
theorem dX12_group_30 : decode cX12_group 30 = .ok (.iload_n 2, 1) := by decide +kernel
theorem dX12_group_31 : decode cX12_group 31 = .ok (.iconst 2, 1) := by decide +kernel
theorem dX12_group_32 : decode cX12_group 32 = .ok (.if_icmp .ge 23, 3) := by decide +kernel
theorem dX12_group_35 : decode cX12_group 35 = .ok (.iload_n 2, 1) := by decide +kernel
theorem dX12_group_36 : decode cX12_group 36 = .ok (.ifCond .ne 12, 3) := by decide +kernel
theorem dX12_group_39 : decode cX12_group 39 = .ok (.aload_n 0, 1) := by decide +kernel
theorem dX12_group_40 : decode cX12_group 40 = .ok (.getfield 78, 3) := by decide +kernel
theorem dX12_group_43 : decode cX12_group 43 = .ok (.iload_n 1, 1) := by decide +kernel
theorem dX12_group_44 : decode cX12_group 44 = .ok (.iaload, 1) := by decide +kernel
theorem dX12_group_45 : decode cX12_group 45 = .ok (.goto 9, 3) := by decide +kernel
theorem dX12_group_48 : decode cX12_group 48 = .ok (.aload_n 0, 1) := by decide +kernel
theorem dX12_group_49 : decode cX12_group 49 = .ok (.getfield 75, 3) := by decide +kernel
theorem dX12_group_52 : decode cX12_group 52 = .ok (.iload_n 1, 1) := by decide +kernel
theorem dX12_group_53 : decode cX12_group 53 = .ok (.iaload, 1) := by decide +kernel
theorem dX12_group_54 : decode cX12_group 54 = .ok (.ireturn, 1) := by decide +kernel
theorem dX12_group_55 : decode cX12_group 55 = .ok (.iload_n 2, 1) := by decide +kernel
theorem dX12_group_56 : decode cX12_group 56 = .ok (.iconst 4, 1) := by decide +kernel
theorem dX12_group_57 : decode cX12_group 57 = .ok (.if_icmp .ne 42, 3) := by decide +kernel
theorem dX12_group_60 : decode cX12_group 60 = .ok (.aload_n 0, 1) := by decide +kernel
theorem dX12_group_61 : decode cX12_group 61 = .ok (.getfield 75, 3) := by decide +kernel
theorem dX12_group_64 : decode cX12_group 64 = .ok (.iload_n 1, 1) := by decide +kernel
theorem dX12_group_65 : decode cX12_group 65 = .ok (.iaload, 1) := by decide +kernel
theorem dX12_group_66 : decode cX12_group 66 = .ok (.iconst 1, 1) := by decide +kernel
theorem dX12_group_67 : decode cX12_group 67 = .ok (.if_icmp .ne 30, 3) := by decide +kernel
theorem dX12_group_70 : decode cX12_group 70 = .ok (.aload_n 0, 1) := by decide +kernel
theorem dX12_group_71 : decode cX12_group 71 = .ok (.getfield 81, 3) := by decide +kernel
theorem dX12_group_74 : decode cX12_group 74 = .ok (.iload_n 1, 1) := by decide +kernel
theorem dX12_group_75 : decode cX12_group 75 = .ok (.iaload, 1) := by decide +kernel
theorem dX12_group_76 : decode cX12_group 76 = .ok (.aload_n 0, 1) := by decide +kernel
theorem dX12_group_77 : decode cX12_group 77 = .ok (.getfield 401, 3) := by decide +kernel
theorem dX12_group_80 : decode cX12_group 80 = .ok (.if_icmp .le 17, 3) := by decide +kernel
theorem dX12_group_83 : decode cX12_group 83 = .ok (.aload_n 0, 1) := by decide +kernel
theorem dX12_group_84 : decode cX12_group 84 = .ok (.getfield 81, 3) := by decide +kernel
theorem dX12_group_87 : decode cX12_group 87 = .ok (.iload_n 1, 1) := by decide +kernel
theorem dX12_group_88 : decode cX12_group 88 = .ok (.iaload, 1) := by decide +kernel
theorem dX12_group_89 : decode cX12_group 89 = .ok (.aload_n 0, 1) := by decide +kernel
theorem dX12_group_90 : decode cX12_group 90 = .ok (.getfield 401, 3) := by decide +kernel
theorem dX12_group_93 : decode cX12_group 93 = .ok (.isub, 1) := by decide +kernel
theorem dX12_group_94 : decode cX12_group 94 = .ok (.goto 4, 3) := by decide +kernel
theorem dX12_group_97 : decode cX12_group 97 = .ok (.iconst 0, 1) := by decide +kernel
theorem dX12_group_98 : decode cX12_group 98 = .ok (.ireturn, 1) := by decide +kernel
theorem dX12_group_99 : decode cX12_group 99 = .ok (.iconst 0, 1) := by decide +kernel
theorem dX12_group_100 : decode cX12_group 100 = .ok (.istore_n 3, 1) := by decide +kernel
theorem dX12_group_101 : decode cX12_group 101 = .ok (.bipush 7, 2) := by decide +kernel
theorem dX12_group_103 : decode cX12_group 103 = .ok (.istore 4, 2) := by decide +kernel
theorem dX12_group_105 : decode cX12_group 105 = .ok (.iload 4, 2) := by decide +kernel
theorem dX12_group_107 : decode cX12_group 107 = .ok (.ifCond .lt 76, 3) := by decide +kernel
theorem dX12_group_110 : decode cX12_group 110 = .ok (.aload_n 0, 1) := by decide +kernel
theorem dX12_group_111 : decode cX12_group 111 = .ok (.getfield 84, 3) := by decide +kernel
theorem dX12_group_114 : decode cX12_group 114 = .ok (.bipush 8, 2) := by decide +kernel
theorem dX12_group_116 : decode cX12_group 116 = .ok (.iload_n 1, 1) := by decide +kernel
theorem dX12_group_117 : decode cX12_group 117 = .ok (.imul, 1) := by decide +kernel
theorem dX12_group_118 : decode cX12_group 118 = .ok (.iload 4, 2) := by decide +kernel
theorem dX12_group_120 : decode cX12_group 120 = .ok (.iadd, 1) := by decide +kernel
theorem dX12_group_121 : decode cX12_group 121 = .ok (.baload, 1) := by decide +kernel
theorem dX12_group_122 : decode cX12_group 122 = .ok (.ifCond .eq 37, 3) := by decide +kernel
theorem dX12_group_125 : decode cX12_group 125 = .ok (.iload_n 2, 1) := by decide +kernel
theorem dX12_group_126 : decode cX12_group 126 = .ok (.iconst 2, 1) := by decide +kernel
theorem dX12_group_127 : decode cX12_group 127 = .ok (.if_icmp .eq 28, 3) := by decide +kernel
theorem dX12_group_130 : decode cX12_group 130 = .ok (.aload_n 0, 1) := by decide +kernel
theorem dX12_group_131 : decode cX12_group 131 = .ok (.getfield 75, 3) := by decide +kernel
theorem dX12_group_134 : decode cX12_group 134 = .ok (.iload_n 1, 1) := by decide +kernel
theorem dX12_group_135 : decode cX12_group 135 = .ok (.iaload, 1) := by decide +kernel
theorem dX12_group_136 : decode cX12_group 136 = .ok (.iconst 2, 1) := by decide +kernel
theorem dX12_group_137 : decode cX12_group 137 = .ok (.if_icmp .eq 18, 3) := by decide +kernel
theorem dX12_group_140 : decode cX12_group 140 = .ok (.aload_n 0, 1) := by decide +kernel
theorem dX12_group_141 : decode cX12_group 141 = .ok (.getfield 87, 3) := by decide +kernel
theorem dX12_group_144 : decode cX12_group 144 = .ok (.bipush 8, 2) := by decide +kernel
theorem dX12_group_146 : decode cX12_group 146 = .ok (.iload_n 1, 1) := by decide +kernel
theorem dX12_group_147 : decode cX12_group 147 = .ok (.imul, 1) := by decide +kernel
theorem dX12_group_148 : decode cX12_group 148 = .ok (.iload 4, 2) := by decide +kernel
theorem dX12_group_150 : decode cX12_group 150 = .ok (.iadd, 1) := by decide +kernel
theorem dX12_group_151 : decode cX12_group 151 = .ok (.baload, 1) := by decide +kernel
theorem dX12_group_152 : decode cX12_group 152 = .ok (.ifCond .eq 7, 3) := by decide +kernel
theorem dX12_group_155 : decode cX12_group 155 = .ok (.iconst 1, 1) := by decide +kernel
theorem dX12_group_156 : decode cX12_group 156 = .ok (.goto 4, 3) := by decide +kernel
theorem dX12_group_159 : decode cX12_group 159 = .ok (.iconst 0, 1) := by decide +kernel
theorem dX12_group_160 : decode cX12_group 160 = .ok (.istore 5, 2) := by decide +kernel
theorem dX12_group_162 : decode cX12_group 162 = .ok (.iconst 2, 1) := by decide +kernel
theorem dX12_group_163 : decode cX12_group 163 = .ok (.iload_n 3, 1) := by decide +kernel
theorem dX12_group_164 : decode cX12_group 164 = .ok (.imul, 1) := by decide +kernel
theorem dX12_group_165 : decode cX12_group 165 = .ok (.iload 5, 2) := by decide +kernel
theorem dX12_group_167 : decode cX12_group 167 = .ok (.ifCond .eq 7, 3) := by decide +kernel
theorem dX12_group_170 : decode cX12_group 170 = .ok (.iconst 1, 1) := by decide +kernel
theorem dX12_group_171 : decode cX12_group 171 = .ok (.goto 4, 3) := by decide +kernel
theorem dX12_group_174 : decode cX12_group 174 = .ok (.iconst 0, 1) := by decide +kernel
theorem dX12_group_175 : decode cX12_group 175 = .ok (.iadd, 1) := by decide +kernel
theorem dX12_group_176 : decode cX12_group 176 = .ok (.istore_n 3, 1) := by decide +kernel
theorem dX12_group_177 : decode cX12_group 177 = .ok (.iinc 4 (-1), 3) := by decide +kernel
theorem dX12_group_180 : decode cX12_group 180 = .ok (.goto (-75), 3) := by decide +kernel
theorem dX12_group_183 : decode cX12_group 183 = .ok (.iload_n 3, 1) := by decide +kernel
theorem dX12_group_184 : decode cX12_group 184 = .ok (.ireturn, 1) := by decide +kernel
theorem dX12_share_0 : decode cX12_share 0 = .ok (.aload_n 0, 1) := by decide +kernel
theorem dX12_share_1 : decode cX12_share 1 = .ok (.iload_n 1, 1) := by decide +kernel
theorem dX12_share_2 : decode cX12_share 2 = .ok (.invokestatic 448, 3) := by decide +kernel
theorem dX12_share_5 : decode cX12_share 5 = .ok (.ifCond .eq 14, 3) := by decide +kernel
theorem dX12_share_8 : decode cX12_share 8 = .ok (.iload_n 2, 1) := by decide +kernel
theorem dX12_share_9 : decode cX12_share 9 = .ok (.invokestatic 448, 3) := by decide +kernel
theorem dX12_share_12 : decode cX12_share 12 = .ok (.ifCond .eq 7, 3) := by decide +kernel
theorem dX12_share_15 : decode cX12_share 15 = .ok (.iconst 1, 1) := by decide +kernel
theorem dX12_share_16 : decode cX12_share 16 = .ok (.goto 4, 3) := by decide +kernel
theorem dX12_share_19 : decode cX12_share 19 = .ok (.iconst 0, 1) := by decide +kernel
theorem dX12_share_20 : decode cX12_share 20 = .ok (.invokevirtual 361, 3) := by decide +kernel
theorem dX12_share_23 : decode cX12_share 23 = .ok (.ifCond .eq 27, 3) := by decide +kernel
theorem dX12_share_26 : decode cX12_share 26 = .ok (.aload_n 0, 1) := by decide +kernel
theorem dX12_share_27 : decode cX12_share 27 = .ok (.getfield 75, 3) := by decide +kernel
theorem dX12_share_30 : decode cX12_share 30 = .ok (.iload_n 1, 1) := by decide +kernel
theorem dX12_share_31 : decode cX12_share 31 = .ok (.iaload, 1) := by decide +kernel
theorem dX12_share_32 : decode cX12_share 32 = .ok (.iconst 2, 1) := by decide +kernel
theorem dX12_share_33 : decode cX12_share 33 = .ok (.if_icmp .ne 17, 3) := by decide +kernel
theorem dX12_share_36 : decode cX12_share 36 = .ok (.aload_n 0, 1) := by decide +kernel
theorem dX12_share_37 : decode cX12_share 37 = .ok (.getfield 84, 3) := by decide +kernel
theorem dX12_share_40 : decode cX12_share 40 = .ok (.bipush 8, 2) := by decide +kernel
theorem dX12_share_42 : decode cX12_share 42 = .ok (.iload_n 1, 1) := by decide +kernel
theorem dX12_share_43 : decode cX12_share 43 = .ok (.imul, 1) := by decide +kernel
theorem dX12_share_44 : decode cX12_share 44 = .ok (.iload_n 2, 1) := by decide +kernel
theorem dX12_share_45 : decode cX12_share 45 = .ok (.iadd, 1) := by decide +kernel
theorem dX12_share_46 : decode cX12_share 46 = .ok (.baload, 1) := by decide +kernel
theorem dX12_share_47 : decode cX12_share 47 = .ok (.ifCond .ne 5, 3) := by decide +kernel
theorem dX12_share_50 : decode cX12_share 50 = .ok (.iconst 0, 1) := by decide +kernel
theorem dX12_share_51 : decode cX12_share 51 = .ok (.ireturn, 1) := by decide +kernel
theorem dX12_share_52 : decode cX12_share 52 = .ok (.iconst 0, 1) := by decide +kernel
theorem dX12_share_53 : decode cX12_share 53 = .ok (.istore_n 3, 1) := by decide +kernel
theorem dX12_share_54 : decode cX12_share 54 = .ok (.aload_n 0, 1) := by decide +kernel
theorem dX12_share_55 : decode cX12_share 55 = .ok (.getfield 136, 3) := by decide +kernel
theorem dX12_share_58 : decode cX12_share 58 = .ok (.iconst 1, 1) := by decide +kernel
theorem dX12_share_59 : decode cX12_share 59 = .ok (.isub, 1) := by decide +kernel
theorem dX12_share_60 : decode cX12_share 60 = .ok (.istore 4, 2) := by decide +kernel
theorem dX12_share_62 : decode cX12_share 62 = .ok (.iload 4, 2) := by decide +kernel
theorem dX12_share_64 : decode cX12_share 64 = .ok (.ifCond .lt 30, 3) := by decide +kernel
theorem dX12_share_67 : decode cX12_share 67 = .ok (.iconst 2, 1) := by decide +kernel
theorem dX12_share_68 : decode cX12_share 68 = .ok (.iload_n 3, 1) := by decide +kernel
theorem dX12_share_69 : decode cX12_share 69 = .ok (.imul, 1) := by decide +kernel
theorem dX12_share_70 : decode cX12_share 70 = .ok (.aload_n 0, 1) := by decide +kernel
theorem dX12_share_71 : decode cX12_share 71 = .ok (.iload_n 1, 1) := by decide +kernel
theorem dX12_share_72 : decode cX12_share 72 = .ok (.iload 4, 2) := by decide +kernel
theorem dX12_share_74 : decode cX12_share 74 = .ok (.invokevirtual 457, 3) := by decide +kernel
theorem dX12_share_77 : decode cX12_share 77 = .ok (.iload_n 2, 1) := by decide +kernel
theorem dX12_share_78 : decode cX12_share 78 = .ok (.if_icmp .ne 7, 3) := by decide +kernel
theorem dX12_share_81 : decode cX12_share 81 = .ok (.iconst 1, 1) := by decide +kernel
theorem dX12_share_82 : decode cX12_share 82 = .ok (.goto 4, 3) := by decide +kernel
theorem dX12_share_85 : decode cX12_share 85 = .ok (.iconst 0, 1) := by decide +kernel
theorem dX12_share_86 : decode cX12_share 86 = .ok (.iadd, 1) := by decide +kernel
theorem dX12_share_87 : decode cX12_share 87 = .ok (.istore_n 3, 1) := by decide +kernel
theorem dX12_share_88 : decode cX12_share 88 = .ok (.iinc 4 (-1), 3) := by decide +kernel
theorem dX12_share_91 : decode cX12_share 91 = .ok (.goto (-29), 3) := by decide +kernel
theorem dX12_share_94 : decode cX12_share 94 = .ok (.iload_n 3, 1) := by decide +kernel
theorem dX12_share_95 : decode cX12_share 95 = .ok (.ireturn, 1) := by decide +kernel
theorem dX12_tick_0 : decode cX12_tick 0 = .ok (.iconst 0, 1) := by decide +kernel
theorem dX12_tick_1 : decode cX12_tick 1 = .ok (.istore_n 2, 1) := by decide +kernel
theorem dX12_tick_2 : decode cX12_tick 2 = .ok (.bipush 8, 2) := by decide +kernel
theorem dX12_tick_4 : decode cX12_tick 4 = .ok (.iload_n 1, 1) := by decide +kernel
theorem dX12_tick_5 : decode cX12_tick 5 = .ok (.imul, 1) := by decide +kernel
theorem dX12_tick_6 : decode cX12_tick 6 = .ok (.istore_n 3, 1) := by decide +kernel
theorem dX12_tick_7 : decode cX12_tick 7 = .ok (.iload_n 3, 1) := by decide +kernel
theorem dX12_tick_8 : decode cX12_tick 8 = .ok (.bipush 8, 2) := by decide +kernel
theorem dX12_tick_10 : decode cX12_tick 10 = .ok (.iload_n 1, 1) := by decide +kernel
theorem dX12_tick_11 : decode cX12_tick 11 = .ok (.imul, 1) := by decide +kernel
theorem dX12_tick_12 : decode cX12_tick 12 = .ok (.bipush 8, 2) := by decide +kernel
theorem dX12_tick_14 : decode cX12_tick 14 = .ok (.iadd, 1) := by decide +kernel
theorem dX12_tick_15 : decode cX12_tick 15 = .ok (.if_icmp .ge 53, 3) := by decide +kernel
theorem dX12_tick_18 : decode cX12_tick 18 = .ok (.aload_n 0, 1) := by decide +kernel
theorem dX12_tick_19 : decode cX12_tick 19 = .ok (.getfield 75, 3) := by decide +kernel
theorem dX12_tick_22 : decode cX12_tick 22 = .ok (.iload_n 1, 1) := by decide +kernel
theorem dX12_tick_23 : decode cX12_tick 23 = .ok (.iaload, 1) := by decide +kernel
theorem dX12_tick_24 : decode cX12_tick 24 = .ok (.iconst 2, 1) := by decide +kernel
theorem dX12_tick_25 : decode cX12_tick 25 = .ok (.if_icmp .ne 43, 3) := by decide +kernel
theorem dX12_tick_28 : decode cX12_tick 28 = .ok (.aload_n 0, 1) := by decide +kernel
theorem dX12_tick_29 : decode cX12_tick 29 = .ok (.getfield 84, 3) := by decide +kernel
theorem dX12_tick_32 : decode cX12_tick 32 = .ok (.iload_n 3, 1) := by decide +kernel
theorem dX12_tick_33 : decode cX12_tick 33 = .ok (.baload, 1) := by decide +kernel
theorem dX12_tick_34 : decode cX12_tick 34 = .ok (.ifCond .eq 28, 3) := by decide +kernel
theorem dX12_tick_37 : decode cX12_tick 37 = .ok (.aload_n 0, 1) := by decide +kernel
theorem dX12_tick_38 : decode cX12_tick 38 = .ok (.getfield 401, 3) := by decide +kernel
theorem dX12_tick_41 : decode cX12_tick 41 = .ok (.aload_n 0, 1) := by decide +kernel
theorem dX12_tick_42 : decode cX12_tick 42 = .ok (.getfield 90, 3) := by decide +kernel
theorem dX12_tick_45 : decode cX12_tick 45 = .ok (.iload_n 3, 1) := by decide +kernel
theorem dX12_tick_46 : decode cX12_tick 46 = .ok (.iaload, 1) := by decide +kernel
theorem dX12_tick_47 : decode cX12_tick 47 = .ok (.isub, 1) := by decide +kernel
theorem dX12_tick_48 : decode cX12_tick 48 = .ok (.bipush 30, 2) := by decide +kernel
theorem dX12_tick_50 : decode cX12_tick 50 = .ok (.if_icmp .lt 12, 3) := by decide +kernel
theorem dX12_tick_53 : decode cX12_tick 53 = .ok (.aload_n 0, 1) := by decide +kernel
theorem dX12_tick_54 : decode cX12_tick 54 = .ok (.getfield 84, 3) := by decide +kernel
theorem dX12_tick_57 : decode cX12_tick 57 = .ok (.iload_n 3, 1) := by decide +kernel
theorem dX12_tick_58 : decode cX12_tick 58 = .ok (.iconst 0, 1) := by decide +kernel
theorem dX12_tick_59 : decode cX12_tick 59 = .ok (.bastore, 1) := by decide +kernel
theorem dX12_tick_60 : decode cX12_tick 60 = .ok (.iconst 1, 1) := by decide +kernel
theorem dX12_tick_61 : decode cX12_tick 61 = .ok (.istore_n 2, 1) := by decide +kernel
theorem dX12_tick_62 : decode cX12_tick 62 = .ok (.iinc 3 1, 3) := by decide +kernel
theorem dX12_tick_65 : decode cX12_tick 65 = .ok (.goto (-58), 3) := by decide +kernel
theorem dX12_tick_68 : decode cX12_tick 68 = .ok (.iload_n 2, 1) := by decide +kernel
theorem dX12_tick_69 : decode cX12_tick 69 = .ok (.ifCond .eq 8, 3) := by decide +kernel
theorem dX12_tick_72 : decode cX12_tick 72 = .ok (.aload_n 0, 1) := by decide +kernel
theorem dX12_tick_73 : decode cX12_tick 73 = .ok (.iload_n 1, 1) := by decide +kernel
theorem dX12_tick_74 : decode cX12_tick 74 = .ok (.invokevirtual 454, 3) := by decide +kernel
theorem dX12_tick_77 : decode cX12_tick 77 = .ok (.aload_n 0, 1) := by decide +kernel
theorem dX12_tick_78 : decode cX12_tick 78 = .ok (.iload_n 1, 1) := by decide +kernel
theorem dX12_tick_79 : decode cX12_tick 79 = .ok (.invokevirtual 451, 3) := by decide +kernel
theorem dX12_tick_82 : decode cX12_tick 82 = .ok (.return_, 1) := by decide +kernel
theorem dX12_ticks_0 : decode cX12_ticks 0 = .ok (.aload_n 0, 1) := by decide +kernel
theorem dX12_ticks_1 : decode cX12_ticks 1 = .ok (.iload_n 1, 1) := by decide +kernel
theorem dX12_ticks_2 : decode cX12_ticks 2 = .ok (.iconst 1, 1) := by decide +kernel
theorem dX12_ticks_3 : decode cX12_ticks 3 = .ok (.if_icmp .lt 14, 3) := by decide +kernel
theorem dX12_ticks_6 : decode cX12_ticks 6 = .ok (.iload_n 1, 1) := by decide +kernel
theorem dX12_ticks_7 : decode cX12_ticks 7 = .ok (.sipush 200, 3) := by decide +kernel
theorem dX12_ticks_10 : decode cX12_ticks 10 = .ok (.if_icmp .gt 7, 3) := by decide +kernel
theorem dX12_ticks_13 : decode cX12_ticks 13 = .ok (.iconst 1, 1) := by decide +kernel
theorem dX12_ticks_14 : decode cX12_ticks 14 = .ok (.goto 4, 3) := by decide +kernel
theorem dX12_ticks_17 : decode cX12_ticks 17 = .ok (.iconst 0, 1) := by decide +kernel
theorem dX12_ticks_18 : decode cX12_ticks 18 = .ok (.invokevirtual 361, 3) := by decide +kernel
theorem dX12_ticks_21 : decode cX12_ticks 21 = .ok (.ifCond .ne 5, 3) := by decide +kernel
theorem dX12_ticks_24 : decode cX12_ticks 24 = .ok (.iconst 0, 1) := by decide +kernel
theorem dX12_ticks_25 : decode cX12_ticks 25 = .ok (.ireturn, 1) := by decide +kernel
theorem dX12_ticks_26 : decode cX12_ticks 26 = .ok (.aload_n 0, 1) := by decide +kernel
theorem dX12_ticks_27 : decode cX12_ticks 27 = .ok (.aload_n 0, 1) := by decide +kernel
theorem dX12_ticks_28 : decode cX12_ticks 28 = .ok (.getfield 401, 3) := by decide +kernel
theorem dX12_ticks_31 : decode cX12_ticks 31 = .ok (.iload_n 1, 1) := by decide +kernel
theorem dX12_ticks_32 : decode cX12_ticks 32 = .ok (.iadd, 1) := by decide +kernel
theorem dX12_ticks_33 : decode cX12_ticks 33 = .ok (.ldc_w 464, 3) := by decide +kernel
theorem dX12_ticks_36 : decode cX12_ticks 36 = .ok (.if_icmp .le 7, 3) := by decide +kernel
theorem dX12_ticks_39 : decode cX12_ticks 39 = .ok (.iconst 2, 1) := by decide +kernel
theorem dX12_ticks_40 : decode cX12_ticks 40 = .ok (.goto 4, 3) := by decide +kernel
theorem dX12_ticks_43 : decode cX12_ticks 43 = .ok (.iconst 0, 1) := by decide +kernel
theorem dX12_ticks_44 : decode cX12_ticks 44 = .ok (.putfield 145, 3) := by decide +kernel
theorem dX12_ticks_47 : decode cX12_ticks 47 = .ok (.iconst 0, 1) := by decide +kernel
theorem dX12_ticks_48 : decode cX12_ticks 48 = .ok (.istore_n 2, 1) := by decide +kernel
theorem dX12_ticks_49 : decode cX12_ticks 49 = .ok (.iload_n 2, 1) := by decide +kernel
theorem dX12_ticks_50 : decode cX12_ticks 50 = .ok (.iload_n 1, 1) := by decide +kernel
theorem dX12_ticks_51 : decode cX12_ticks 51 = .ok (.if_icmp .ge 59, 3) := by decide +kernel
theorem dX12_ticks_54 : decode cX12_ticks 54 = .ok (.aload_n 0, 1) := by decide +kernel
theorem dX12_ticks_55 : decode cX12_ticks 55 = .ok (.getfield 145, 3) := by decide +kernel
theorem dX12_ticks_58 : decode cX12_ticks 58 = .ok (.ifCond .ne 52, 3) := by decide +kernel
theorem dX12_ticks_61 : decode cX12_ticks 61 = .ok (.aload_n 0, 1) := by decide +kernel
theorem dX12_ticks_62 : decode cX12_ticks 62 = .ok (.getfield 286, 3) := by decide +kernel
theorem dX12_ticks_65 : decode cX12_ticks 65 = .ok (.ifCond .ne 45, 3) := by decide +kernel
theorem dX12_ticks_68 : decode cX12_ticks 68 = .ok (.aload_n 0, 1) := by decide +kernel
theorem dX12_ticks_69 : decode cX12_ticks 69 = .ok (.dup, 1) := by decide +kernel
theorem dX12_ticks_70 : decode cX12_ticks 70 = .ok (.getfield 401, 3) := by decide +kernel
theorem dX12_ticks_73 : decode cX12_ticks 73 = .ok (.iconst 1, 1) := by decide +kernel
theorem dX12_ticks_74 : decode cX12_ticks 74 = .ok (.iadd, 1) := by decide +kernel
theorem dX12_ticks_75 : decode cX12_ticks 75 = .ok (.putfield 401, 3) := by decide +kernel
theorem dX12_ticks_78 : decode cX12_ticks 78 = .ok (.iconst 0, 1) := by decide +kernel
theorem dX12_ticks_79 : decode cX12_ticks 79 = .ok (.istore_n 3, 1) := by decide +kernel
theorem dX12_ticks_80 : decode cX12_ticks 80 = .ok (.iload_n 3, 1) := by decide +kernel
theorem dX12_ticks_81 : decode cX12_ticks 81 = .ok (.bipush 8, 2) := by decide +kernel
theorem dX12_ticks_83 : decode cX12_ticks 83 = .ok (.if_icmp .ge 21, 3) := by decide +kernel
theorem dX12_ticks_86 : decode cX12_ticks 86 = .ok (.aload_n 0, 1) := by decide +kernel
theorem dX12_ticks_87 : decode cX12_ticks 87 = .ok (.getfield 286, 3) := by decide +kernel
theorem dX12_ticks_90 : decode cX12_ticks 90 = .ok (.ifCond .ne 14, 3) := by decide +kernel
theorem dX12_ticks_93 : decode cX12_ticks 93 = .ok (.aload_n 0, 1) := by decide +kernel
theorem dX12_ticks_94 : decode cX12_ticks 94 = .ok (.iload_n 3, 1) := by decide +kernel
theorem dX12_ticks_95 : decode cX12_ticks 95 = .ok (.invokevirtual 465, 3) := by decide +kernel
theorem dX12_ticks_98 : decode cX12_ticks 98 = .ok (.iinc 3 1, 3) := by decide +kernel
theorem dX12_ticks_101 : decode cX12_ticks 101 = .ok (.goto (-21), 3) := by decide +kernel
theorem dX12_ticks_104 : decode cX12_ticks 104 = .ok (.iinc 2 1, 3) := by decide +kernel
theorem dX12_ticks_107 : decode cX12_ticks 107 = .ok (.goto (-58), 3) := by decide +kernel
theorem dX12_ticks_110 : decode cX12_ticks 110 = .ok (.aload_n 0, 1) := by decide +kernel
theorem dX12_ticks_111 : decode cX12_ticks 111 = .ok (.getfield 145, 3) := by decide +kernel
theorem dX12_ticks_114 : decode cX12_ticks 114 = .ok (.ifCond .le 7, 3) := by decide +kernel
theorem dX12_ticks_117 : decode cX12_ticks 117 = .ok (.iconst 0, 1) := by decide +kernel
theorem dX12_ticks_118 : decode cX12_ticks 118 = .ok (.goto 19, 3) := by decide +kernel
theorem dX12_ticks_121 : decode cX12_ticks 121 = .ok (.aload_n 0, 1) := by decide +kernel
theorem dX12_ticks_122 : decode cX12_ticks 122 = .ok (.getfield 286, 3) := by decide +kernel
theorem dX12_ticks_125 : decode cX12_ticks 125 = .ok (.ifCond .eq 8, 3) := by decide +kernel
theorem dX12_ticks_128 : decode cX12_ticks 128 = .ok (.bipush (-3), 2) := by decide +kernel
theorem dX12_ticks_130 : decode cX12_ticks 130 = .ok (.goto 7, 3) := by decide +kernel
theorem dX12_ticks_133 : decode cX12_ticks 133 = .ok (.aload_n 0, 1) := by decide +kernel
theorem dX12_ticks_134 : decode cX12_ticks 134 = .ok (.getfield 401, 3) := by decide +kernel
theorem dX12_ticks_137 : decode cX12_ticks 137 = .ok (.ireturn, 1) := by decide +kernel
theorem dX12_time_0 : decode cX12_time 0 = .ok (.aload_n 0, 1) := by decide +kernel
theorem dX12_time_1 : decode cX12_time 1 = .ok (.iconst 0, 1) := by decide +kernel
theorem dX12_time_2 : decode cX12_time 2 = .ok (.putfield 145, 3) := by decide +kernel
theorem dX12_time_5 : decode cX12_time 5 = .ok (.aload_n 0, 1) := by decide +kernel
theorem dX12_time_6 : decode cX12_time 6 = .ok (.getfield 401, 3) := by decide +kernel
theorem dX12_time_9 : decode cX12_time 9 = .ok (.ireturn, 1) := by decide +kernel
theorem dX12_crash_0 : decode cX12_crash 0 = .ok (.aload_n 0, 1) := by decide +kernel
theorem dX12_crash_1 : decode cX12_crash 1 = .ok (.iload_n 1, 1) := by decide +kernel
theorem dX12_crash_2 : decode cX12_crash 2 = .ok (.iconst (-1), 1) := by decide +kernel
theorem dX12_crash_3 : decode cX12_crash 3 = .ok (.if_icmp .lt 14, 3) := by decide +kernel
theorem dX12_crash_6 : decode cX12_crash 6 = .ok (.iload_n 1, 1) := by decide +kernel
theorem dX12_crash_7 : decode cX12_crash 7 = .ok (.sipush 1000, 3) := by decide +kernel
theorem dX12_crash_10 : decode cX12_crash 10 = .ok (.if_icmp .gt 7, 3) := by decide +kernel
theorem dX12_crash_13 : decode cX12_crash 13 = .ok (.iconst 1, 1) := by decide +kernel
theorem dX12_crash_14 : decode cX12_crash 14 = .ok (.goto 4, 3) := by decide +kernel
theorem dX12_crash_17 : decode cX12_crash 17 = .ok (.iconst 0, 1) := by decide +kernel
theorem dX12_crash_18 : decode cX12_crash 18 = .ok (.invokevirtual 361, 3) := by decide +kernel
theorem dX12_crash_21 : decode cX12_crash 21 = .ok (.ifCond .eq 21, 3) := by decide +kernel
theorem dX12_crash_24 : decode cX12_crash 24 = .ok (.aload_n 0, 1) := by decide +kernel
theorem dX12_crash_25 : decode cX12_crash 25 = .ok (.iload_n 1, 1) := by decide +kernel
theorem dX12_crash_26 : decode cX12_crash 26 = .ok (.putfield 7, 3) := by decide +kernel
theorem dX12_crash_29 : decode cX12_crash 29 = .ok (.aload_n 0, 1) := by decide +kernel
theorem dX12_crash_30 : decode cX12_crash 30 = .ok (.iload_n 1, 1) := by decide +kernel
theorem dX12_crash_31 : decode cX12_crash 31 = .ok (.ifCond .ne 7, 3) := by decide +kernel
theorem dX12_crash_34 : decode cX12_crash 34 = .ok (.iconst 1, 1) := by decide +kernel
theorem dX12_crash_35 : decode cX12_crash 35 = .ok (.goto 4, 3) := by decide +kernel
theorem dX12_crash_38 : decode cX12_crash 38 = .ok (.iconst 0, 1) := by decide +kernel
theorem dX12_crash_39 : decode cX12_crash 39 = .ok (.putfield 286, 3) := by decide +kernel
theorem dX12_crash_42 : decode cX12_crash 42 = .ok (.return_, 1) := by decide +kernel
theorem dX12_recover_0 : decode cX12_recover 0 = .ok (.aload_n 0, 1) := by decide +kernel
theorem dX12_recover_1 : decode cX12_recover 1 = .ok (.iconst 0, 1) := by decide +kernel
theorem dX12_recover_2 : decode cX12_recover 2 = .ok (.putfield 145, 3) := by decide +kernel
theorem dX12_recover_5 : decode cX12_recover 5 = .ok (.aload_n 0, 1) := by decide +kernel
theorem dX12_recover_6 : decode cX12_recover 6 = .ok (.iconst 0, 1) := by decide +kernel
theorem dX12_recover_7 : decode cX12_recover 7 = .ok (.putfield 286, 3) := by decide +kernel
theorem dX12_recover_10 : decode cX12_recover 10 = .ok (.aload_n 0, 1) := by decide +kernel
theorem dX12_recover_11 : decode cX12_recover 11 = .ok (.iconst (-1), 1) := by decide +kernel
theorem dX12_recover_12 : decode cX12_recover 12 = .ok (.putfield 7, 3) := by decide +kernel
theorem dX12_recover_15 : decode cX12_recover 15 = .ok (.aload_n 0, 1) := by decide +kernel
theorem dX12_recover_16 : decode cX12_recover 16 = .ok (.aload_n 0, 1) := by decide +kernel
theorem dX12_recover_17 : decode cX12_recover 17 = .ok (.getfield 354, 3) := by decide +kernel
theorem dX12_recover_20 : decode cX12_recover 20 = .ok (.putfield 351, 3) := by decide +kernel
theorem dX12_recover_23 : decode cX12_recover 23 = .ok (.iconst 0, 1) := by decide +kernel
theorem dX12_recover_24 : decode cX12_recover 24 = .ok (.istore_n 1, 1) := by decide +kernel
theorem dX12_recover_25 : decode cX12_recover 25 = .ok (.iload_n 1, 1) := by decide +kernel
theorem dX12_recover_26 : decode cX12_recover 26 = .ok (.bipush 8, 2) := by decide +kernel
theorem dX12_recover_28 : decode cX12_recover 28 = .ok (.if_icmp .ge 41, 3) := by decide +kernel
theorem dX12_recover_31 : decode cX12_recover 31 = .ok (.aload_n 0, 1) := by decide +kernel
theorem dX12_recover_32 : decode cX12_recover 32 = .ok (.iload_n 1, 1) := by decide +kernel
theorem dX12_recover_33 : decode cX12_recover 33 = .ok (.invokevirtual 438, 3) := by decide +kernel
theorem dX12_recover_36 : decode cX12_recover 36 = .ok (.aload_n 0, 1) := by decide +kernel
theorem dX12_recover_37 : decode cX12_recover 37 = .ok (.iload_n 1, 1) := by decide +kernel
theorem dX12_recover_38 : decode cX12_recover 38 = .ok (.sipush 255, 3) := by decide +kernel
theorem dX12_recover_41 : decode cX12_recover 41 = .ok (.invokevirtual 460, 3) := by decide +kernel
theorem dX12_recover_44 : decode cX12_recover 44 = .ok (.lstore_n 2, 1) := by decide +kernel
theorem dX12_recover_45 : decode cX12_recover 45 = .ok (.aload_n 0, 1) := by decide +kernel
theorem dX12_recover_46 : decode cX12_recover 46 = .ok (.getfield 78, 3) := by decide +kernel
theorem dX12_recover_49 : decode cX12_recover 49 = .ok (.iload_n 1, 1) := by decide +kernel
theorem dX12_recover_50 : decode cX12_recover 50 = .ok (.lload_n 2, 1) := by decide +kernel
theorem dX12_recover_51 : decode cX12_recover 51 = .ok (.lconst 0, 1) := by decide +kernel
theorem dX12_recover_52 : decode cX12_recover 52 = .ok (.lcmp, 1) := by decide +kernel
theorem dX12_recover_53 : decode cX12_recover 53 = .ok (.ifCond .ge 7, 3) := by decide +kernel
theorem dX12_recover_56 : decode cX12_recover 56 = .ok (.iconst 0, 1) := by decide +kernel
theorem dX12_recover_57 : decode cX12_recover 57 = .ok (.goto 5, 3) := by decide +kernel
theorem dX12_recover_60 : decode cX12_recover 60 = .ok (.lload_n 2, 1) := by decide +kernel
theorem dX12_recover_61 : decode cX12_recover 61 = .ok (.l2i, 1) := by decide +kernel
theorem dX12_recover_62 : decode cX12_recover 62 = .ok (.iastore, 1) := by decide +kernel
theorem dX12_recover_63 : decode cX12_recover 63 = .ok (.iinc 1 1, 3) := by decide +kernel
theorem dX12_recover_66 : decode cX12_recover 66 = .ok (.goto (-41), 3) := by decide +kernel
theorem dX12_recover_69 : decode cX12_recover 69 = .ok (.aload_n 0, 1) := by decide +kernel
theorem dX12_recover_70 : decode cX12_recover 70 = .ok (.getfield 295, 3) := by decide +kernel
theorem dX12_recover_73 : decode cX12_recover 73 = .ok (.ireturn, 1) := by decide +kernel
theorem dX12_isDown_0 : decode cX12_isDown 0 = .ok (.aload_n 0, 1) := by decide +kernel
theorem dX12_isDown_1 : decode cX12_isDown 1 = .ok (.iconst 0, 1) := by decide +kernel
theorem dX12_isDown_2 : decode cX12_isDown 2 = .ok (.putfield 145, 3) := by decide +kernel
theorem dX12_isDown_5 : decode cX12_isDown 5 = .ok (.aload_n 0, 1) := by decide +kernel
theorem dX12_isDown_6 : decode cX12_isDown 6 = .ok (.getfield 286, 3) := by decide +kernel
theorem dX12_isDown_9 : decode cX12_isDown 9 = .ok (.ireturn, 1) := by decide +kernel
theorem dX12_writes_0 : decode cX12_writes 0 = .ok (.aload_n 0, 1) := by decide +kernel
theorem dX12_writes_1 : decode cX12_writes 1 = .ok (.iconst 0, 1) := by decide +kernel
theorem dX12_writes_2 : decode cX12_writes 2 = .ok (.putfield 145, 3) := by decide +kernel
theorem dX12_writes_5 : decode cX12_writes 5 = .ok (.aload_n 0, 1) := by decide +kernel
theorem dX12_writes_6 : decode cX12_writes 6 = .ok (.getfield 292, 3) := by decide +kernel
theorem dX12_writes_9 : decode cX12_writes 9 = .ok (.ireturn, 1) := by decide +kernel
theorem dX12_free_0 : decode cX12_free 0 = .ok (.aload_n 0, 1) := by decide +kernel
theorem dX12_free_1 : decode cX12_free 1 = .ok (.aload_n 0, 1) := by decide +kernel
theorem dX12_free_2 : decode cX12_free 2 = .ok (.getfield 286, 3) := by decide +kernel
theorem dX12_free_5 : decode cX12_free 5 = .ok (.ifCond .eq 7, 3) := by decide +kernel
theorem dX12_free_8 : decode cX12_free 8 = .ok (.iconst 1, 1) := by decide +kernel
theorem dX12_free_9 : decode cX12_free 9 = .ok (.goto 4, 3) := by decide +kernel
theorem dX12_free_12 : decode cX12_free 12 = .ok (.iconst 0, 1) := by decide +kernel
theorem dX12_free_13 : decode cX12_free 13 = .ok (.putfield 145, 3) := by decide +kernel
theorem dX12_free_16 : decode cX12_free 16 = .ok (.aload_n 0, 1) := by decide +kernel
theorem dX12_free_17 : decode cX12_free 17 = .ok (.getfield 145, 3) := by decide +kernel
theorem dX12_free_20 : decode cX12_free 20 = .ok (.ifCond .le 5, 3) := by decide +kernel
theorem dX12_free_23 : decode cX12_free 23 = .ok (.iconst 0, 1) := by decide +kernel
theorem dX12_free_24 : decode cX12_free 24 = .ok (.ireturn, 1) := by decide +kernel
theorem dX12_free_25 : decode cX12_free 25 = .ok (.aload_n 0, 1) := by decide +kernel
theorem dX12_free_26 : decode cX12_free 26 = .ok (.invokevirtual 301, 3) := by decide +kernel
theorem dX12_free_29 : decode cX12_free 29 = .ok (.iconst 0, 1) := by decide +kernel
theorem dX12_free_30 : decode cX12_free 30 = .ok (.istore_n 1, 1) := by decide +kernel
theorem dX12_free_31 : decode cX12_free 31 = .ok (.iconst 0, 1) := by decide +kernel
theorem dX12_free_32 : decode cX12_free 32 = .ok (.istore_n 2, 1) := by decide +kernel
theorem dX12_free_33 : decode cX12_free 33 = .ok (.iload_n 2, 1) := by decide +kernel
theorem dX12_free_34 : decode cX12_free 34 = .ok (.aload_n 0, 1) := by decide +kernel
theorem dX12_free_35 : decode cX12_free 35 = .ok (.getfield 142, 3) := by decide +kernel
theorem dX12_free_38 : decode cX12_free 38 = .ok (.if_icmp .ge 26, 3) := by decide +kernel
theorem dX12_free_41 : decode cX12_free 41 = .ok (.iload_n 1, 1) := by decide +kernel
theorem dX12_free_42 : decode cX12_free 42 = .ok (.aload_n 0, 1) := by decide +kernel
theorem dX12_free_43 : decode cX12_free 43 = .ok (.getfield 67, 3) := by decide +kernel
theorem dX12_free_46 : decode cX12_free 46 = .ok (.iload_n 2, 1) := by decide +kernel
theorem dX12_free_47 : decode cX12_free 47 = .ok (.baload, 1) := by decide +kernel
theorem dX12_free_48 : decode cX12_free 48 = .ok (.ifCond .eq 7, 3) := by decide +kernel
theorem dX12_free_51 : decode cX12_free 51 = .ok (.iconst 0, 1) := by decide +kernel
theorem dX12_free_52 : decode cX12_free 52 = .ok (.goto 4, 3) := by decide +kernel
theorem dX12_free_55 : decode cX12_free 55 = .ok (.iconst 1, 1) := by decide +kernel
theorem dX12_free_56 : decode cX12_free 56 = .ok (.iadd, 1) := by decide +kernel
theorem dX12_free_57 : decode cX12_free 57 = .ok (.istore_n 1, 1) := by decide +kernel
theorem dX12_free_58 : decode cX12_free 58 = .ok (.iinc 2 1, 3) := by decide +kernel
theorem dX12_free_61 : decode cX12_free 61 = .ok (.goto (-28), 3) := by decide +kernel
theorem dX12_free_64 : decode cX12_free 64 = .ok (.iload_n 1, 1) := by decide +kernel
theorem dX12_free_65 : decode cX12_free 65 = .ok (.ireturn, 1) := by decide +kernel
theorem dX12_audit_0 : decode cX12_audit 0 = .ok (.aload_n 0, 1) := by decide +kernel
theorem dX12_audit_1 : decode cX12_audit 1 = .ok (.aload_n 0, 1) := by decide +kernel
theorem dX12_audit_2 : decode cX12_audit 2 = .ok (.getfield 286, 3) := by decide +kernel
theorem dX12_audit_5 : decode cX12_audit 5 = .ok (.ifCond .eq 7, 3) := by decide +kernel
theorem dX12_audit_8 : decode cX12_audit 8 = .ok (.iconst 1, 1) := by decide +kernel
theorem dX12_audit_9 : decode cX12_audit 9 = .ok (.goto 4, 3) := by decide +kernel
theorem dX12_audit_12 : decode cX12_audit 12 = .ok (.iconst 0, 1) := by decide +kernel
theorem dX12_audit_13 : decode cX12_audit 13 = .ok (.putfield 145, 3) := by decide +kernel
theorem dX12_audit_16 : decode cX12_audit 16 = .ok (.iconst 0, 1) := by decide +kernel
theorem dX12_audit_17 : decode cX12_audit 17 = .ok (.ireturn, 1) := by decide +kernel
