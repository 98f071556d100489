abbrev c_MD_init : ByteArray := prog_7_method_1_code
abbrev y_MD_init : MethodName := ⟨"StripeFieldModel", "<init>", "(III)V"⟩
theorem d_MD_init_0 : decode c_MD_init 0 = .ok (.aload_n 0, 1) := by decide +kernel
theorem d_MD_init_1 : decode c_MD_init 1 = .ok (.invokespecial 1, 3) := by decide +kernel
theorem d_MD_init_4 : decode c_MD_init 4 = .ok (.aload_n 0, 1) := by decide +kernel
theorem d_MD_init_5 : decode c_MD_init 5 = .ok (.bipush 16, 2) := by decide +kernel
theorem d_MD_init_7 : decode c_MD_init 7 = .ok (.newarray .int, 2) := by decide +kernel
theorem d_MD_init_9 : decode c_MD_init 9 = .ok (.putfield 7, 3) := by decide +kernel
theorem d_MD_init_12 : decode c_MD_init 12 = .ok (.aload_n 0, 1) := by decide +kernel
theorem d_MD_init_13 : decode c_MD_init 13 = .ok (.bipush 16, 2) := by decide +kernel
theorem d_MD_init_15 : decode c_MD_init 15 = .ok (.newarray .boolean, 2) := by decide +kernel
theorem d_MD_init_17 : decode c_MD_init 17 = .ok (.putfield 13, 3) := by decide +kernel
theorem d_MD_init_20 : decode c_MD_init 20 = .ok (.aload_n 0, 1) := by decide +kernel
theorem d_MD_init_21 : decode c_MD_init 21 = .ok (.sipush 1040, 3) := by decide +kernel
theorem d_MD_init_24 : decode c_MD_init 24 = .ok (.newarray .boolean, 2) := by decide +kernel
theorem d_MD_init_26 : decode c_MD_init 26 = .ok (.putfield 17, 3) := by decide +kernel
theorem d_MD_init_29 : decode c_MD_init 29 = .ok (.aload_n 0, 1) := by decide +kernel
theorem d_MD_init_30 : decode c_MD_init 30 = .ok (.sipush 1040, 3) := by decide +kernel
theorem d_MD_init_33 : decode c_MD_init 33 = .ok (.newarray .int, 2) := by decide +kernel
theorem d_MD_init_35 : decode c_MD_init 35 = .ok (.putfield 20, 3) := by decide +kernel
theorem d_MD_init_38 : decode c_MD_init 38 = .ok (.aload_n 0, 1) := by decide +kernel
theorem d_MD_init_39 : decode c_MD_init 39 = .ok (.ldc 23, 2) := by decide +kernel
theorem d_MD_init_41 : decode c_MD_init 41 = .ok (.newarray .byte, 2) := by decide +kernel
theorem d_MD_init_43 : decode c_MD_init 43 = .ok (.putfield 24, 3) := by decide +kernel
theorem d_MD_init_46 : decode c_MD_init 46 = .ok (.aload_n 0, 1) := by decide +kernel
theorem d_MD_init_47 : decode c_MD_init 47 = .ok (.sipush 1024, 3) := by decide +kernel
theorem d_MD_init_50 : decode c_MD_init 50 = .ok (.newarray .int, 2) := by decide +kernel
theorem d_MD_init_52 : decode c_MD_init 52 = .ok (.putfield 28, 3) := by decide +kernel
theorem d_MD_init_55 : decode c_MD_init 55 = .ok (.aload_n 0, 1) := by decide +kernel
theorem d_MD_init_56 : decode c_MD_init 56 = .ok (.iconst 1, 1) := by decide +kernel
theorem d_MD_init_57 : decode c_MD_init 57 = .ok (.putfield 31, 3) := by decide +kernel
theorem d_MD_init_60 : decode c_MD_init 60 = .ok (.aload_n 0, 1) := by decide +kernel
theorem d_MD_init_61 : decode c_MD_init 61 = .ok (.iconst (-1), 1) := by decide +kernel
theorem d_MD_init_62 : decode c_MD_init 62 = .ok (.putfield 35, 3) := by decide +kernel
theorem d_MD_init_65 : decode c_MD_init 65 = .ok (.aload_n 0, 1) := by decide +kernel
theorem d_MD_init_66 : decode c_MD_init 66 = .ok (.bipush 64, 2) := by decide +kernel
theorem d_MD_init_68 : decode c_MD_init 68 = .ok (.newarray .int, 2) := by decide +kernel
theorem d_MD_init_70 : decode c_MD_init 70 = .ok (.putfield 39, 3) := by decide +kernel
theorem d_MD_init_73 : decode c_MD_init 73 = .ok (.aload_n 0, 1) := by decide +kernel
theorem d_MD_init_74 : decode c_MD_init 74 = .ok (.ldc 42, 2) := by decide +kernel
theorem d_MD_init_76 : decode c_MD_init 76 = .ok (.newarray .int, 2) := by decide +kernel
theorem d_MD_init_78 : decode c_MD_init 78 = .ok (.putfield 43, 3) := by decide +kernel
theorem d_MD_init_81 : decode c_MD_init 81 = .ok (.aload_n 0, 1) := by decide +kernel
theorem d_MD_init_82 : decode c_MD_init 82 = .ok (.iconst (-1), 1) := by decide +kernel
theorem d_MD_init_83 : decode c_MD_init 83 = .ok (.putfield 46, 3) := by decide +kernel
theorem d_MD_init_86 : decode c_MD_init 86 = .ok (.aload_n 0, 1) := by decide +kernel
theorem d_MD_init_87 : decode c_MD_init 87 = .ok (.bipush 64, 2) := by decide +kernel
theorem d_MD_init_89 : decode c_MD_init 89 = .ok (.newarray .int, 2) := by decide +kernel
theorem d_MD_init_91 : decode c_MD_init 91 = .ok (.putfield 49, 3) := by decide +kernel
theorem d_MD_init_94 : decode c_MD_init 94 = .ok (.aload_n 0, 1) := by decide +kernel
theorem d_MD_init_95 : decode c_MD_init 95 = .ok (.iload_n 1, 1) := by decide +kernel
theorem d_MD_init_96 : decode c_MD_init 96 = .ok (.bipush 6, 2) := by decide +kernel
theorem d_MD_init_98 : decode c_MD_init 98 = .ok (.if_icmp .lt 9, 3) := by decide +kernel
theorem d_MD_init_101 : decode c_MD_init 101 = .ok (.iload_n 1, 1) := by decide +kernel
theorem d_MD_init_102 : decode c_MD_init 102 = .ok (.bipush 16, 2) := by decide +kernel
theorem d_MD_init_104 : decode c_MD_init 104 = .ok (.if_icmp .le 8, 3) := by decide +kernel
theorem d_MD_init_107 : decode c_MD_init 107 = .ok (.bipush 8, 2) := by decide +kernel
theorem d_MD_init_109 : decode c_MD_init 109 = .ok (.goto 4, 3) := by decide +kernel
theorem d_MD_init_112 : decode c_MD_init 112 = .ok (.iload_n 1, 1) := by decide +kernel
theorem d_MD_init_113 : decode c_MD_init 113 = .ok (.putfield 52, 3) := by decide +kernel
theorem d_MD_init_116 : decode c_MD_init 116 = .ok (.aload_n 0, 1) := by decide +kernel
theorem d_MD_init_117 : decode c_MD_init 117 = .ok (.iload_n 2, 1) := by decide +kernel
theorem d_MD_init_118 : decode c_MD_init 118 = .ok (.iconst 3, 1) := by decide +kernel
theorem d_MD_init_119 : decode c_MD_init 119 = .ok (.if_icmp .lt 17, 3) := by decide +kernel
theorem d_MD_init_122 : decode c_MD_init 122 = .ok (.iload_n 2, 1) := by decide +kernel
theorem d_MD_init_123 : decode c_MD_init 123 = .ok (.bipush 8, 2) := by decide +kernel
theorem d_MD_init_125 : decode c_MD_init 125 = .ok (.if_icmp .gt 11, 3) := by decide +kernel
theorem d_MD_init_128 : decode c_MD_init 128 = .ok (.iload_n 2, 1) := by decide +kernel
theorem d_MD_init_129 : decode c_MD_init 129 = .ok (.aload_n 0, 1) := by decide +kernel
theorem d_MD_init_130 : decode c_MD_init 130 = .ok (.getfield 52, 3) := by decide +kernel
theorem d_MD_init_133 : decode c_MD_init 133 = .ok (.if_icmp .lt 7, 3) := by decide +kernel
theorem d_MD_init_136 : decode c_MD_init 136 = .ok (.iconst 3, 1) := by decide +kernel
theorem d_MD_init_137 : decode c_MD_init 137 = .ok (.goto 4, 3) := by decide +kernel
theorem d_MD_init_140 : decode c_MD_init 140 = .ok (.iload_n 2, 1) := by decide +kernel
theorem d_MD_init_141 : decode c_MD_init 141 = .ok (.putfield 55, 3) := by decide +kernel
theorem d_MD_init_144 : decode c_MD_init 144 = .ok (.aload_n 0, 1) := by decide +kernel
theorem d_MD_init_145 : decode c_MD_init 145 = .ok (.iload_n 3, 1) := by decide +kernel
theorem d_MD_init_146 : decode c_MD_init 146 = .ok (.bipush 48, 2) := by decide +kernel
theorem d_MD_init_148 : decode c_MD_init 148 = .ok (.if_icmp .lt 9, 3) := by decide +kernel
theorem d_MD_init_151 : decode c_MD_init 151 = .ok (.iload_n 3, 1) := by decide +kernel
theorem d_MD_init_152 : decode c_MD_init 152 = .ok (.bipush 64, 2) := by decide +kernel
theorem d_MD_init_154 : decode c_MD_init 154 = .ok (.if_icmp .le 8, 3) := by decide +kernel
theorem d_MD_init_157 : decode c_MD_init 157 = .ok (.bipush 48, 2) := by decide +kernel
theorem d_MD_init_159 : decode c_MD_init 159 = .ok (.goto 4, 3) := by decide +kernel
theorem d_MD_init_162 : decode c_MD_init 162 = .ok (.iload_n 3, 1) := by decide +kernel
theorem d_MD_init_163 : decode c_MD_init 163 = .ok (.putfield 58, 3) := by decide +kernel
theorem d_MD_init_166 : decode c_MD_init 166 = .ok (.aload_n 0, 1) := by decide +kernel
theorem d_MD_init_167 : decode c_MD_init 167 = .ok (.aload_n 0, 1) := by decide +kernel
theorem d_MD_init_168 : decode c_MD_init 168 = .ok (.getfield 52, 3) := by decide +kernel
theorem d_MD_init_171 : decode c_MD_init 171 = .ok (.iconst 1, 1) := by decide +kernel
theorem d_MD_init_172 : decode c_MD_init 172 = .ok (.isub, 1) := by decide +kernel
theorem d_MD_init_173 : decode c_MD_init 173 = .ok (.aload_n 0, 1) := by decide +kernel
theorem d_MD_init_174 : decode c_MD_init 174 = .ok (.getfield 55, 3) := by decide +kernel
theorem d_MD_init_177 : decode c_MD_init 177 = .ok (.idiv, 1) := by decide +kernel
theorem d_MD_init_178 : decode c_MD_init 178 = .ok (.putfield 61, 3) := by decide +kernel
theorem d_MD_init_181 : decode c_MD_init 181 = .ok (.iconst 1, 1) := by decide +kernel
theorem d_MD_init_182 : decode c_MD_init 182 = .ok (.istore 4, 2) := by decide +kernel
theorem d_MD_init_184 : decode c_MD_init 184 = .ok (.iload 4, 2) := by decide +kernel
theorem d_MD_init_186 : decode c_MD_init 186 = .ok (.aload_n 0, 1) := by decide +kernel
theorem d_MD_init_187 : decode c_MD_init 187 = .ok (.getfield 52, 3) := by decide +kernel
theorem d_MD_init_190 : decode c_MD_init 190 = .ok (.if_icmp .ge 87, 3) := by decide +kernel
theorem d_MD_init_193 : decode c_MD_init 193 = .ok (.iconst 1, 1) := by decide +kernel
theorem d_MD_init_194 : decode c_MD_init 194 = .ok (.istore 5, 2) := by decide +kernel
theorem d_MD_init_196 : decode c_MD_init 196 = .ok (.iconst 2, 1) := by decide +kernel
theorem d_MD_init_197 : decode c_MD_init 197 = .ok (.istore 6, 2) := by decide +kernel
theorem d_MD_init_199 : decode c_MD_init 199 = .ok (.iload 6, 2) := by decide +kernel
theorem d_MD_init_201 : decode c_MD_init 201 = .ok (.iload 4, 2) := by decide +kernel
theorem d_MD_init_203 : decode c_MD_init 203 = .ok (.if_icmp .gt 39, 3) := by decide +kernel
theorem d_MD_init_206 : decode c_MD_init 206 = .ok (.iload 5, 2) := by decide +kernel
theorem d_MD_init_208 : decode c_MD_init 208 = .ok (.ifCond .eq 25, 3) := by decide +kernel
theorem d_MD_init_211 : decode c_MD_init 211 = .ok (.iload 4, 2) := by decide +kernel
theorem d_MD_init_213 : decode c_MD_init 213 = .ok (.iload 6, 2) := by decide +kernel
theorem d_MD_init_215 : decode c_MD_init 215 = .ok (.irem, 1) := by decide +kernel
theorem d_MD_init_216 : decode c_MD_init 216 = .ok (.ifCond .ne 13, 3) := by decide +kernel
theorem d_MD_init_219 : decode c_MD_init 219 = .ok (.aload_n 0, 1) := by decide +kernel
theorem d_MD_init_220 : decode c_MD_init 220 = .ok (.getfield 52, 3) := by decide +kernel
theorem d_MD_init_223 : decode c_MD_init 223 = .ok (.iload 6, 2) := by decide +kernel
theorem d_MD_init_225 : decode c_MD_init 225 = .ok (.irem, 1) := by decide +kernel
theorem d_MD_init_226 : decode c_MD_init 226 = .ok (.ifCond .eq 7, 3) := by decide +kernel
theorem d_MD_init_229 : decode c_MD_init 229 = .ok (.iconst 1, 1) := by decide +kernel
theorem d_MD_init_230 : decode c_MD_init 230 = .ok (.goto 4, 3) := by decide +kernel
theorem d_MD_init_233 : decode c_MD_init 233 = .ok (.iconst 0, 1) := by decide +kernel
theorem d_MD_init_234 : decode c_MD_init 234 = .ok (.istore 5, 2) := by decide +kernel
theorem d_MD_init_236 : decode c_MD_init 236 = .ok (.iinc 6 1, 3) := by decide +kernel
theorem d_MD_init_239 : decode c_MD_init 239 = .ok (.goto (-40), 3) := by decide +kernel
theorem d_MD_init_242 : decode c_MD_init 242 = .ok (.iload 5, 2) := by decide +kernel
theorem d_MD_init_244 : decode c_MD_init 244 = .ok (.ifCond .ne 6, 3) := by decide +kernel
theorem d_MD_init_247 : decode c_MD_init 247 = .ok (.goto 24, 3) := by decide +kernel
theorem d_MD_init_250 : decode c_MD_init 250 = .ok (.aload_n 0, 1) := by decide +kernel
theorem d_MD_init_251 : decode c_MD_init 251 = .ok (.getfield 7, 3) := by decide +kernel
theorem d_MD_init_254 : decode c_MD_init 254 = .ok (.aload_n 0, 1) := by decide +kernel
theorem d_MD_init_255 : decode c_MD_init 255 = .ok (.getfield 64, 3) := by decide +kernel
theorem d_MD_init_258 : decode c_MD_init 258 = .ok (.iload 4, 2) := by decide +kernel
theorem d_MD_init_260 : decode c_MD_init 260 = .ok (.iastore, 1) := by decide +kernel
theorem d_MD_init_261 : decode c_MD_init 261 = .ok (.aload_n 0, 1) := by decide +kernel
theorem d_MD_init_262 : decode c_MD_init 262 = .ok (.dup, 1) := by decide +kernel
theorem d_MD_init_263 : decode c_MD_init 263 = .ok (.getfield 64, 3) := by decide +kernel
theorem d_MD_init_266 : decode c_MD_init 266 = .ok (.iconst 1, 1) := by decide +kernel
theorem d_MD_init_267 : decode c_MD_init 267 = .ok (.iadd, 1) := by decide +kernel
theorem d_MD_init_268 : decode c_MD_init 268 = .ok (.putfield 64, 3) := by decide +kernel
theorem d_MD_init_271 : decode c_MD_init 271 = .ok (.iinc 4 1, 3) := by decide +kernel
theorem d_MD_init_274 : decode c_MD_init 274 = .ok (.goto (-90), 3) := by decide +kernel
theorem d_MD_init_277 : decode c_MD_init 277 = .ok (.iconst 0, 1) := by decide +kernel
theorem d_MD_init_278 : decode c_MD_init 278 = .ok (.istore 4, 2) := by decide +kernel
theorem d_MD_init_280 : decode c_MD_init 280 = .ok (.iload 4, 2) := by decide +kernel
theorem d_MD_init_282 : decode c_MD_init 282 = .ok (.aload_n 0, 1) := by decide +kernel
theorem d_MD_init_283 : decode c_MD_init 283 = .ok (.getfield 52, 3) := by decide +kernel
theorem d_MD_init_286 : decode c_MD_init 286 = .ok (.if_icmp .ge 48, 3) := by decide +kernel
theorem d_MD_init_289 : decode c_MD_init 289 = .ok (.aload_n 0, 1) := by decide +kernel
theorem d_MD_init_290 : decode c_MD_init 290 = .ok (.getfield 13, 3) := by decide +kernel
theorem d_MD_init_293 : decode c_MD_init 293 = .ok (.iload 4, 2) := by decide +kernel
theorem d_MD_init_295 : decode c_MD_init 295 = .ok (.iconst 1, 1) := by decide +kernel
theorem d_MD_init_296 : decode c_MD_init 296 = .ok (.bastore, 1) := by decide +kernel
theorem d_MD_init_297 : decode c_MD_init 297 = .ok (.iconst 0, 1) := by decide +kernel
theorem d_MD_init_298 : decode c_MD_init 298 = .ok (.istore 5, 2) := by decide +kernel
theorem d_MD_init_300 : decode c_MD_init 300 = .ok (.iload 5, 2) := by decide +kernel
theorem d_MD_init_302 : decode c_MD_init 302 = .ok (.aload_n 0, 1) := by decide +kernel
theorem d_MD_init_303 : decode c_MD_init 303 = .ok (.getfield 58, 3) := by decide +kernel
theorem d_MD_init_306 : decode c_MD_init 306 = .ok (.if_icmp .gt 22, 3) := by decide +kernel
theorem d_MD_init_309 : decode c_MD_init 309 = .ok (.aload_n 0, 1) := by decide +kernel
theorem d_MD_init_310 : decode c_MD_init 310 = .ok (.getfield 17, 3) := by decide +kernel
theorem d_MD_init_313 : decode c_MD_init 313 = .ok (.iload 4, 2) := by decide +kernel
theorem d_MD_init_315 : decode c_MD_init 315 = .ok (.iload 5, 2) := by decide +kernel
theorem d_MD_init_317 : decode c_MD_init 317 = .ok (.invokestatic 67, 3) := by decide +kernel
theorem d_MD_init_320 : decode c_MD_init 320 = .ok (.iconst 1, 1) := by decide +kernel
theorem d_MD_init_321 : decode c_MD_init 321 = .ok (.bastore, 1) := by decide +kernel
theorem d_MD_init_322 : decode c_MD_init 322 = .ok (.iinc 5 1, 3) := by decide +kernel
theorem d_MD_init_325 : decode c_MD_init 325 = .ok (.goto (-25), 3) := by decide +kernel
theorem d_MD_init_328 : decode c_MD_init 328 = .ok (.iinc 4 1, 3) := by decide +kernel
theorem d_MD_init_331 : decode c_MD_init 331 = .ok (.goto (-51), 3) := by decide +kernel
theorem d_MD_init_334 : decode c_MD_init 334 = .ok (.iconst 0, 1) := by decide +kernel
theorem d_MD_init_335 : decode c_MD_init 335 = .ok (.istore 4, 2) := by decide +kernel
theorem d_MD_init_337 : decode c_MD_init 337 = .ok (.iload 4, 2) := by decide +kernel
theorem d_MD_init_339 : decode c_MD_init 339 = .ok (.aload_n 0, 1) := by decide +kernel
theorem d_MD_init_340 : decode c_MD_init 340 = .ok (.getfield 58, 3) := by decide +kernel
theorem d_MD_init_343 : decode c_MD_init 343 = .ok (.if_icmp .ge 75, 3) := by decide +kernel
theorem d_MD_init_346 : decode c_MD_init 346 = .ok (.iconst 0, 1) := by decide +kernel
theorem d_MD_init_347 : decode c_MD_init 347 = .ok (.istore 5, 2) := by decide +kernel
theorem d_MD_init_349 : decode c_MD_init 349 = .ok (.iload 5, 2) := by decide +kernel
theorem d_MD_init_351 : decode c_MD_init 351 = .ok (.aload_n 0, 1) := by decide +kernel
theorem d_MD_init_352 : decode c_MD_init 352 = .ok (.getfield 55, 3) := by decide +kernel
theorem d_MD_init_355 : decode c_MD_init 355 = .ok (.aload_n 0, 1) := by decide +kernel
theorem d_MD_init_356 : decode c_MD_init 356 = .ok (.getfield 61, 3) := by decide +kernel
theorem d_MD_init_359 : decode c_MD_init 359 = .ok (.imul, 1) := by decide +kernel
theorem d_MD_init_360 : decode c_MD_init 360 = .ok (.if_icmp .ge 52, 3) := by decide +kernel
theorem d_MD_init_363 : decode c_MD_init 363 = .ok (.aload_n 0, 1) := by decide +kernel
theorem d_MD_init_364 : decode c_MD_init 364 = .ok (.getfield 28, 3) := by decide +kernel
theorem d_MD_init_367 : decode c_MD_init 367 = .ok (.bipush 16, 2) := by decide +kernel
theorem d_MD_init_369 : decode c_MD_init 369 = .ok (.iload 4, 2) := by decide +kernel
theorem d_MD_init_371 : decode c_MD_init 371 = .ok (.imul, 1) := by decide +kernel
theorem d_MD_init_372 : decode c_MD_init 372 = .ok (.iload 5, 2) := by decide +kernel
theorem d_MD_init_374 : decode c_MD_init 374 = .ok (.iadd, 1) := by decide +kernel
theorem d_MD_init_375 : decode c_MD_init 375 = .ok (.aload_n 0, 1) := by decide +kernel
theorem d_MD_init_376 : decode c_MD_init 376 = .ok (.iload 4, 2) := by decide +kernel
theorem d_MD_init_378 : decode c_MD_init 378 = .ok (.iload 5, 2) := by decide +kernel
theorem d_MD_init_380 : decode c_MD_init 380 = .ok (.invokevirtual 71, 3) := by decide +kernel
theorem d_MD_init_383 : decode c_MD_init 383 = .ok (.iastore, 1) := by decide +kernel
theorem d_MD_init_384 : decode c_MD_init 384 = .ok (.aload_n 0, 1) := by decide +kernel
theorem d_MD_init_385 : decode c_MD_init 385 = .ok (.getfield 20, 3) := by decide +kernel
theorem d_MD_init_388 : decode c_MD_init 388 = .ok (.aload_n 0, 1) := by decide +kernel
theorem d_MD_init_389 : decode c_MD_init 389 = .ok (.iload 4, 2) := by decide +kernel
theorem d_MD_init_391 : decode c_MD_init 391 = .ok (.iload 5, 2) := by decide +kernel
theorem d_MD_init_393 : decode c_MD_init 393 = .ok (.invokevirtual 71, 3) := by decide +kernel
theorem d_MD_init_396 : decode c_MD_init 396 = .ok (.iload 4, 2) := by decide +kernel
theorem d_MD_init_398 : decode c_MD_init 398 = .ok (.invokestatic 67, 3) := by decide +kernel
theorem d_MD_init_401 : decode c_MD_init 401 = .ok (.iload 5, 2) := by decide +kernel
theorem d_MD_init_403 : decode c_MD_init 403 = .ok (.iconst 1, 1) := by decide +kernel
theorem d_MD_init_404 : decode c_MD_init 404 = .ok (.iadd, 1) := by decide +kernel
theorem d_MD_init_405 : decode c_MD_init 405 = .ok (.iastore, 1) := by decide +kernel
theorem d_MD_init_406 : decode c_MD_init 406 = .ok (.iinc 5 1, 3) := by decide +kernel
theorem d_MD_init_409 : decode c_MD_init 409 = .ok (.goto (-60), 3) := by decide +kernel
theorem d_MD_init_412 : decode c_MD_init 412 = .ok (.iinc 4 1, 3) := by decide +kernel
theorem d_MD_init_415 : decode c_MD_init 415 = .ok (.goto (-78), 3) := by decide +kernel
theorem d_MD_init_418 : decode c_MD_init 418 = .ok (.return_, 1) := by decide +kernel
abbrev c_MD_at : ByteArray := prog_7_method_4_code
abbrev y_MD_at : MethodName := ⟨"StripeFieldModel", "at", "(II)I"⟩
theorem d_MD_at_0 : decode c_MD_at 0 = .ok (.bipush 65, 2) := by decide +kernel
theorem d_MD_at_2 : decode c_MD_at 2 = .ok (.iload_n 0, 1) := by decide +kernel
theorem d_MD_at_3 : decode c_MD_at 3 = .ok (.imul, 1) := by decide +kernel
theorem d_MD_at_4 : decode c_MD_at 4 = .ok (.iload_n 1, 1) := by decide +kernel
theorem d_MD_at_5 : decode c_MD_at 5 = .ok (.iadd, 1) := by decide +kernel
theorem d_MD_at_6 : decode c_MD_at 6 = .ok (.ireturn, 1) := by decide +kernel
abbrev c_MD_diskOf : ByteArray := prog_7_method_5_code
abbrev y_MD_diskOf : MethodName := ⟨"StripeFieldModel", "diskOf", "(II)I"⟩
theorem d_MD_diskOf_0 : decode c_MD_diskOf 0 = .ok (.iload_n 1, 1) := by decide +kernel
theorem d_MD_diskOf_1 : decode c_MD_diskOf 1 = .ok (.iload_n 2, 1) := by decide +kernel
theorem d_MD_diskOf_2 : decode c_MD_diskOf 2 = .ok (.aload_n 0, 1) := by decide +kernel
theorem d_MD_diskOf_3 : decode c_MD_diskOf 3 = .ok (.getfield 7, 3) := by decide +kernel
theorem d_MD_diskOf_6 : decode c_MD_diskOf 6 = .ok (.iload_n 1, 1) := by decide +kernel
theorem d_MD_diskOf_7 : decode c_MD_diskOf 7 = .ok (.aload_n 0, 1) := by decide +kernel
theorem d_MD_diskOf_8 : decode c_MD_diskOf 8 = .ok (.getfield 64, 3) := by decide +kernel
theorem d_MD_diskOf_11 : decode c_MD_diskOf 11 = .ok (.irem, 1) := by decide +kernel
theorem d_MD_diskOf_12 : decode c_MD_diskOf 12 = .ok (.iaload, 1) := by decide +kernel
theorem d_MD_diskOf_13 : decode c_MD_diskOf 13 = .ok (.imul, 1) := by decide +kernel
theorem d_MD_diskOf_14 : decode c_MD_diskOf 14 = .ok (.iadd, 1) := by decide +kernel
theorem d_MD_diskOf_15 : decode c_MD_diskOf 15 = .ok (.aload_n 0, 1) := by decide +kernel
theorem d_MD_diskOf_16 : decode c_MD_diskOf 16 = .ok (.getfield 52, 3) := by decide +kernel
theorem d_MD_diskOf_19 : decode c_MD_diskOf 19 = .ok (.irem, 1) := by decide +kernel
theorem d_MD_diskOf_20 : decode c_MD_diskOf 20 = .ok (.ireturn, 1) := by decide +kernel
abbrev c_MD_thrown : ByteArray := prog_7_method_2_code
abbrev y_MD_thrown : MethodName := ⟨"StripeFieldModel", "thrown", "()I"⟩
theorem d_MD_thrown_0 : decode c_MD_thrown 0 = .ok (.aload_n 0, 1) := by decide +kernel
theorem d_MD_thrown_1 : decode c_MD_thrown 1 = .ok (.getfield 74, 3) := by decide +kernel
theorem d_MD_thrown_4 : decode c_MD_thrown 4 = .ok (.ireturn, 1) := by decide +kernel
abbrev c_MD_feed : ByteArray := prog_7_method_16_code
abbrev y_MD_feed : MethodName := ⟨"StripeFieldModel", "feed", "(IJ)I"⟩
theorem d_MD_feed_0 : decode c_MD_feed 0 = .ok (.aload_n 0, 1) := by decide +kernel
theorem d_MD_feed_1 : decode c_MD_feed 1 = .ok (.iload_n 1, 1) := by decide +kernel
theorem d_MD_feed_2 : decode c_MD_feed 2 = .ok (.iconst 1, 1) := by decide +kernel
theorem d_MD_feed_3 : decode c_MD_feed 3 = .ok (.if_icmp .lt 9, 3) := by decide +kernel
theorem d_MD_feed_6 : decode c_MD_feed 6 = .ok (.iload_n 1, 1) := by decide +kernel
theorem d_MD_feed_7 : decode c_MD_feed 7 = .ok (.bipush 8, 2) := by decide +kernel
theorem d_MD_feed_9 : decode c_MD_feed 9 = .ok (.if_icmp .le 7, 3) := by decide +kernel
theorem d_MD_feed_12 : decode c_MD_feed 12 = .ok (.iconst 1, 1) := by decide +kernel
theorem d_MD_feed_13 : decode c_MD_feed 13 = .ok (.goto 4, 3) := by decide +kernel
theorem d_MD_feed_16 : decode c_MD_feed 16 = .ok (.iconst 0, 1) := by decide +kernel
theorem d_MD_feed_17 : decode c_MD_feed 17 = .ok (.iconst 1, 1) := by decide +kernel
theorem d_MD_feed_18 : decode c_MD_feed 18 = .ok (.invokevirtual 100, 3) := by decide +kernel
theorem d_MD_feed_21 : decode c_MD_feed 21 = .ok (.ifCond .ne 27, 3) := by decide +kernel
theorem d_MD_feed_24 : decode c_MD_feed 24 = .ok (.aload_n 0, 1) := by decide +kernel
theorem d_MD_feed_25 : decode c_MD_feed 25 = .ok (.aload_n 0, 1) := by decide +kernel
theorem d_MD_feed_26 : decode c_MD_feed 26 = .ok (.getfield 104, 3) := by decide +kernel
theorem d_MD_feed_29 : decode c_MD_feed 29 = .ok (.iload_n 1, 1) := by decide +kernel
theorem d_MD_feed_30 : decode c_MD_feed 30 = .ok (.iadd, 1) := by decide +kernel
theorem d_MD_feed_31 : decode c_MD_feed 31 = .ok (.bipush 64, 2) := by decide +kernel
theorem d_MD_feed_33 : decode c_MD_feed 33 = .ok (.if_icmp .le 7, 3) := by decide +kernel
theorem d_MD_feed_36 : decode c_MD_feed 36 = .ok (.iconst 1, 1) := by decide +kernel
theorem d_MD_feed_37 : decode c_MD_feed 37 = .ok (.goto 4, 3) := by decide +kernel
theorem d_MD_feed_40 : decode c_MD_feed 40 = .ok (.iconst 0, 1) := by decide +kernel
theorem d_MD_feed_41 : decode c_MD_feed 41 = .ok (.iconst 2, 1) := by decide +kernel
theorem d_MD_feed_42 : decode c_MD_feed 42 = .ok (.invokevirtual 100, 3) := by decide +kernel
theorem d_MD_feed_45 : decode c_MD_feed 45 = .ok (.ifCond .eq 5, 3) := by decide +kernel
theorem d_MD_feed_48 : decode c_MD_feed 48 = .ok (.iconst 0, 1) := by decide +kernel
theorem d_MD_feed_49 : decode c_MD_feed 49 = .ok (.ireturn, 1) := by decide +kernel
theorem d_MD_feed_50 : decode c_MD_feed 50 = .ok (.iconst 0, 1) := by decide +kernel
theorem d_MD_feed_51 : decode c_MD_feed 51 = .ok (.istore 4, 2) := by decide +kernel
theorem d_MD_feed_53 : decode c_MD_feed 53 = .ok (.iload 4, 2) := by decide +kernel
theorem d_MD_feed_55 : decode c_MD_feed 55 = .ok (.iload_n 1, 1) := by decide +kernel
theorem d_MD_feed_56 : decode c_MD_feed 56 = .ok (.if_icmp .ge 33, 3) := by decide +kernel
theorem d_MD_feed_59 : decode c_MD_feed 59 = .ok (.aload_n 0, 1) := by decide +kernel
theorem d_MD_feed_60 : decode c_MD_feed 60 = .ok (.getfield 39, 3) := by decide +kernel
theorem d_MD_feed_63 : decode c_MD_feed 63 = .ok (.aload_n 0, 1) := by decide +kernel
theorem d_MD_feed_64 : decode c_MD_feed 64 = .ok (.getfield 104, 3) := by decide +kernel
theorem d_MD_feed_67 : decode c_MD_feed 67 = .ok (.iload 4, 2) := by decide +kernel
theorem d_MD_feed_69 : decode c_MD_feed 69 = .ok (.iadd, 1) := by decide +kernel
theorem d_MD_feed_70 : decode c_MD_feed 70 = .ok (.lload_n 2, 1) := by decide +kernel
theorem d_MD_feed_71 : decode c_MD_feed 71 = .ok (.bipush 8, 2) := by decide +kernel
theorem d_MD_feed_73 : decode c_MD_feed 73 = .ok (.iload 4, 2) := by decide +kernel
theorem d_MD_feed_75 : decode c_MD_feed 75 = .ok (.imul, 1) := by decide +kernel
theorem d_MD_feed_76 : decode c_MD_feed 76 = .ok (.lshr, 1) := by decide +kernel
theorem d_MD_feed_77 : decode c_MD_feed 77 = .ok (.ldc2_w 107, 3) := by decide +kernel
theorem d_MD_feed_80 : decode c_MD_feed 80 = .ok (.land, 1) := by decide +kernel
theorem d_MD_feed_81 : decode c_MD_feed 81 = .ok (.l2i, 1) := by decide +kernel
theorem d_MD_feed_82 : decode c_MD_feed 82 = .ok (.iastore, 1) := by decide +kernel
theorem d_MD_feed_83 : decode c_MD_feed 83 = .ok (.iinc 4 1, 3) := by decide +kernel
theorem d_MD_feed_86 : decode c_MD_feed 86 = .ok (.goto (-33), 3) := by decide +kernel
theorem d_MD_feed_89 : decode c_MD_feed 89 = .ok (.aload_n 0, 1) := by decide +kernel
theorem d_MD_feed_90 : decode c_MD_feed 90 = .ok (.dup, 1) := by decide +kernel
theorem d_MD_feed_91 : decode c_MD_feed 91 = .ok (.getfield 104, 3) := by decide +kernel
theorem d_MD_feed_94 : decode c_MD_feed 94 = .ok (.iload_n 1, 1) := by decide +kernel
theorem d_MD_feed_95 : decode c_MD_feed 95 = .ok (.iadd, 1) := by decide +kernel
theorem d_MD_feed_96 : decode c_MD_feed 96 = .ok (.putfield 104, 3) := by decide +kernel
theorem d_MD_feed_99 : decode c_MD_feed 99 = .ok (.aload_n 0, 1) := by decide +kernel
theorem d_MD_feed_100 : decode c_MD_feed 100 = .ok (.getfield 104, 3) := by decide +kernel
theorem d_MD_feed_103 : decode c_MD_feed 103 = .ok (.ireturn, 1) := by decide +kernel
abbrev c_MD_fails : ByteArray := prog_7_method_3_code
abbrev y_MD_fails : MethodName := ⟨"StripeFieldModel", "fails", "(ZI)Z"⟩
theorem d_MD_fails_0 : decode c_MD_fails 0 = .ok (.aload_n 0, 1) := by decide +kernel
theorem d_MD_fails_1 : decode c_MD_fails 1 = .ok (.iload_n 1, 1) := by decide +kernel
theorem d_MD_fails_2 : decode c_MD_fails 2 = .ok (.ifCond .eq 7, 3) := by decide +kernel
theorem d_MD_fails_5 : decode c_MD_fails 5 = .ok (.iload_n 2, 1) := by decide +kernel
theorem d_MD_fails_6 : decode c_MD_fails 6 = .ok (.goto 4, 3) := by decide +kernel
theorem d_MD_fails_9 : decode c_MD_fails 9 = .ok (.iconst 0, 1) := by decide +kernel
theorem d_MD_fails_10 : decode c_MD_fails 10 = .ok (.putfield 74, 3) := by decide +kernel
theorem d_MD_fails_13 : decode c_MD_fails 13 = .ok (.iload_n 1, 1) := by decide +kernel
theorem d_MD_fails_14 : decode c_MD_fails 14 = .ok (.ireturn, 1) := by decide +kernel
abbrev c_MD_write : ByteArray := prog_7_method_18_code
abbrev y_MD_write : MethodName := ⟨"StripeFieldModel", "write", "(I)Z"⟩
theorem d_MD_write_0 : decode c_MD_write 0 = .ok (.aload_n 0, 1) := by decide +kernel
theorem d_MD_write_1 : decode c_MD_write 1 = .ok (.iload_n 1, 1) := by decide +kernel
theorem d_MD_write_2 : decode c_MD_write 2 = .ok (.ifCond .lt 11, 3) := by decide +kernel
theorem d_MD_write_5 : decode c_MD_write 5 = .ok (.iload_n 1, 1) := by decide +kernel
theorem d_MD_write_6 : decode c_MD_write 6 = .ok (.aload_n 0, 1) := by decide +kernel
theorem d_MD_write_7 : decode c_MD_write 7 = .ok (.invokevirtual 109, 3) := by decide +kernel
theorem d_MD_write_10 : decode c_MD_write 10 = .ok (.if_icmp .lt 7, 3) := by decide +kernel
theorem d_MD_write_13 : decode c_MD_write 13 = .ok (.iconst 1, 1) := by decide +kernel
theorem d_MD_write_14 : decode c_MD_write 14 = .ok (.goto 4, 3) := by decide +kernel
theorem d_MD_write_17 : decode c_MD_write 17 = .ok (.iconst 0, 1) := by decide +kernel
theorem d_MD_write_18 : decode c_MD_write 18 = .ok (.iconst 1, 1) := by decide +kernel
theorem d_MD_write_19 : decode c_MD_write 19 = .ok (.invokevirtual 100, 3) := by decide +kernel
theorem d_MD_write_22 : decode c_MD_write 22 = .ok (.ifCond .ne 23, 3) := by decide +kernel
theorem d_MD_write_25 : decode c_MD_write 25 = .ok (.aload_n 0, 1) := by decide +kernel
theorem d_MD_write_26 : decode c_MD_write 26 = .ok (.aload_n 0, 1) := by decide +kernel
theorem d_MD_write_27 : decode c_MD_write 27 = .ok (.getfield 31, 3) := by decide +kernel
theorem d_MD_write_30 : decode c_MD_write 30 = .ok (.ifCond .ne 7, 3) := by decide +kernel
theorem d_MD_write_33 : decode c_MD_write 33 = .ok (.iconst 1, 1) := by decide +kernel
theorem d_MD_write_34 : decode c_MD_write 34 = .ok (.goto 4, 3) := by decide +kernel
theorem d_MD_write_37 : decode c_MD_write 37 = .ok (.iconst 0, 1) := by decide +kernel
theorem d_MD_write_38 : decode c_MD_write 38 = .ok (.iconst 2, 1) := by decide +kernel
theorem d_MD_write_39 : decode c_MD_write 39 = .ok (.invokevirtual 100, 3) := by decide +kernel
theorem d_MD_write_42 : decode c_MD_write 42 = .ok (.ifCond .eq 5, 3) := by decide +kernel
theorem d_MD_write_45 : decode c_MD_write 45 = .ok (.iconst 0, 1) := by decide +kernel
theorem d_MD_write_46 : decode c_MD_write 46 = .ok (.ireturn, 1) := by decide +kernel
theorem d_MD_write_47 : decode c_MD_write 47 = .ok (.aload_n 0, 1) := by decide +kernel
theorem d_MD_write_48 : decode c_MD_write 48 = .ok (.iload_n 1, 1) := by decide +kernel
theorem d_MD_write_49 : decode c_MD_write 49 = .ok (.invokevirtual 113, 3) := by decide +kernel
theorem d_MD_write_52 : decode c_MD_write 52 = .ok (.istore_n 2, 1) := by decide +kernel
theorem d_MD_write_53 : decode c_MD_write 53 = .ok (.aload_n 0, 1) := by decide +kernel
theorem d_MD_write_54 : decode c_MD_write 54 = .ok (.iconst 0, 1) := by decide +kernel
theorem d_MD_write_55 : decode c_MD_write 55 = .ok (.putfield 104, 3) := by decide +kernel
theorem d_MD_write_58 : decode c_MD_write 58 = .ok (.iload_n 2, 1) := by decide +kernel
theorem d_MD_write_59 : decode c_MD_write 59 = .ok (.ireturn, 1) := by decide +kernel
abbrev c_MD_blocks : ByteArray := prog_7_method_6_code
abbrev y_MD_blocks : MethodName := ⟨"StripeFieldModel", "blocks", "()I"⟩
theorem d_MD_blocks_0 : decode c_MD_blocks 0 = .ok (.aload_n 0, 1) := by decide +kernel
theorem d_MD_blocks_1 : decode c_MD_blocks 1 = .ok (.getfield 58, 3) := by decide +kernel
theorem d_MD_blocks_4 : decode c_MD_blocks 4 = .ok (.aload_n 0, 1) := by decide +kernel
theorem d_MD_blocks_5 : decode c_MD_blocks 5 = .ok (.getfield 61, 3) := by decide +kernel
theorem d_MD_blocks_8 : decode c_MD_blocks 8 = .ok (.imul, 1) := by decide +kernel
theorem d_MD_blocks_9 : decode c_MD_blocks 9 = .ok (.aload_n 0, 1) := by decide +kernel
theorem d_MD_blocks_10 : decode c_MD_blocks 10 = .ok (.getfield 55, 3) := by decide +kernel
theorem d_MD_blocks_13 : decode c_MD_blocks 13 = .ok (.iconst 1, 1) := by decide +kernel
theorem d_MD_blocks_14 : decode c_MD_blocks 14 = .ok (.isub, 1) := by decide +kernel
theorem d_MD_blocks_15 : decode c_MD_blocks 15 = .ok (.imul, 1) := by decide +kernel
theorem d_MD_blocks_16 : decode c_MD_blocks 16 = .ok (.ireturn, 1) := by decide +kernel
abbrev c_MD_writes : ByteArray := prog_7_method_19_code
abbrev y_MD_writes : MethodName := ⟨"StripeFieldModel", "writes", "(I)Z"⟩
theorem d_MD_writes_0 : decode c_MD_writes 0 = .ok (.iload_n 1, 1) := by decide +kernel
theorem d_MD_writes_1 : decode c_MD_writes 1 = .ok (.aload_n 0, 1) := by decide +kernel
theorem d_MD_writes_2 : decode c_MD_writes 2 = .ok (.getfield 55, 3) := by decide +kernel
theorem d_MD_writes_5 : decode c_MD_writes 5 = .ok (.iconst 1, 1) := by decide +kernel
theorem d_MD_writes_6 : decode c_MD_writes 6 = .ok (.isub, 1) := by decide +kernel
theorem d_MD_writes_7 : decode c_MD_writes 7 = .ok (.idiv, 1) := by decide +kernel
theorem d_MD_writes_8 : decode c_MD_writes 8 = .ok (.istore_n 2, 1) := by decide +kernel
theorem d_MD_writes_9 : decode c_MD_writes 9 = .ok (.iload_n 1, 1) := by decide +kernel
theorem d_MD_writes_10 : decode c_MD_writes 10 = .ok (.aload_n 0, 1) := by decide +kernel
theorem d_MD_writes_11 : decode c_MD_writes 11 = .ok (.getfield 55, 3) := by decide +kernel
theorem d_MD_writes_14 : decode c_MD_writes 14 = .ok (.iconst 1, 1) := by decide +kernel
theorem d_MD_writes_15 : decode c_MD_writes 15 = .ok (.isub, 1) := by decide +kernel
theorem d_MD_writes_16 : decode c_MD_writes 16 = .ok (.irem, 1) := by decide +kernel
theorem d_MD_writes_17 : decode c_MD_writes 17 = .ok (.istore_n 3, 1) := by decide +kernel
theorem d_MD_writes_18 : decode c_MD_writes 18 = .ok (.iload_n 2, 1) := by decide +kernel
theorem d_MD_writes_19 : decode c_MD_writes 19 = .ok (.aload_n 0, 1) := by decide +kernel
theorem d_MD_writes_20 : decode c_MD_writes 20 = .ok (.getfield 61, 3) := by decide +kernel
theorem d_MD_writes_23 : decode c_MD_writes 23 = .ok (.idiv, 1) := by decide +kernel
theorem d_MD_writes_24 : decode c_MD_writes 24 = .ok (.istore 4, 2) := by decide +kernel
theorem d_MD_writes_26 : decode c_MD_writes 26 = .ok (.aload_n 0, 1) := by decide +kernel
theorem d_MD_writes_27 : decode c_MD_writes 27 = .ok (.getfield 55, 3) := by decide +kernel
theorem d_MD_writes_30 : decode c_MD_writes 30 = .ok (.iload_n 2, 1) := by decide +kernel
theorem d_MD_writes_31 : decode c_MD_writes 31 = .ok (.aload_n 0, 1) := by decide +kernel
theorem d_MD_writes_32 : decode c_MD_writes 32 = .ok (.getfield 61, 3) := by decide +kernel
theorem d_MD_writes_35 : decode c_MD_writes 35 = .ok (.irem, 1) := by decide +kernel
theorem d_MD_writes_36 : decode c_MD_writes 36 = .ok (.imul, 1) := by decide +kernel
theorem d_MD_writes_37 : decode c_MD_writes 37 = .ok (.iload_n 3, 1) := by decide +kernel
theorem d_MD_writes_38 : decode c_MD_writes 38 = .ok (.iadd, 1) := by decide +kernel
theorem d_MD_writes_39 : decode c_MD_writes 39 = .ok (.istore 5, 2) := by decide +kernel
theorem d_MD_writes_41 : decode c_MD_writes 41 = .ok (.aload_n 0, 1) := by decide +kernel
theorem d_MD_writes_42 : decode c_MD_writes 42 = .ok (.getfield 55, 3) := by decide +kernel
theorem d_MD_writes_45 : decode c_MD_writes 45 = .ok (.iload_n 2, 1) := by decide +kernel
theorem d_MD_writes_46 : decode c_MD_writes 46 = .ok (.aload_n 0, 1) := by decide +kernel
theorem d_MD_writes_47 : decode c_MD_writes 47 = .ok (.getfield 61, 3) := by decide +kernel
theorem d_MD_writes_50 : decode c_MD_writes 50 = .ok (.irem, 1) := by decide +kernel
theorem d_MD_writes_51 : decode c_MD_writes 51 = .ok (.imul, 1) := by decide +kernel
theorem d_MD_writes_52 : decode c_MD_writes 52 = .ok (.aload_n 0, 1) := by decide +kernel
theorem d_MD_writes_53 : decode c_MD_writes 53 = .ok (.getfield 55, 3) := by decide +kernel
theorem d_MD_writes_56 : decode c_MD_writes 56 = .ok (.iadd, 1) := by decide +kernel
theorem d_MD_writes_57 : decode c_MD_writes 57 = .ok (.iconst 1, 1) := by decide +kernel
theorem d_MD_writes_58 : decode c_MD_writes 58 = .ok (.isub, 1) := by decide +kernel
theorem d_MD_writes_59 : decode c_MD_writes 59 = .ok (.istore 6, 2) := by decide +kernel
theorem d_MD_writes_61 : decode c_MD_writes 61 = .ok (.aload_n 0, 1) := by decide +kernel
theorem d_MD_writes_62 : decode c_MD_writes 62 = .ok (.iload 4, 2) := by decide +kernel
theorem d_MD_writes_64 : decode c_MD_writes 64 = .ok (.iload 5, 2) := by decide +kernel
theorem d_MD_writes_66 : decode c_MD_writes 66 = .ok (.invokevirtual 84, 3) := by decide +kernel
theorem d_MD_writes_69 : decode c_MD_writes 69 = .ok (.istore 7, 2) := by decide +kernel
theorem d_MD_writes_71 : decode c_MD_writes 71 = .ok (.aload_n 0, 1) := by decide +kernel
theorem d_MD_writes_72 : decode c_MD_writes 72 = .ok (.iload 4, 2) := by decide +kernel
theorem d_MD_writes_74 : decode c_MD_writes 74 = .ok (.iload 6, 2) := by decide +kernel
theorem d_MD_writes_76 : decode c_MD_writes 76 = .ok (.invokevirtual 84, 3) := by decide +kernel
theorem d_MD_writes_79 : decode c_MD_writes 79 = .ok (.istore 8, 2) := by decide +kernel
theorem d_MD_writes_81 : decode c_MD_writes 81 = .ok (.iload 7, 2) := by decide +kernel
theorem d_MD_writes_83 : decode c_MD_writes 83 = .ok (.ifCond .lt 8, 3) := by decide +kernel
theorem d_MD_writes_86 : decode c_MD_writes 86 = .ok (.iload 8, 2) := by decide +kernel
theorem d_MD_writes_88 : decode c_MD_writes 88 = .ok (.ifCond .ge 49, 3) := by decide +kernel
theorem d_MD_writes_91 : decode c_MD_writes 91 = .ok (.aload_n 0, 1) := by decide +kernel
theorem d_MD_writes_92 : decode c_MD_writes 92 = .ok (.iload 7, 2) := by decide +kernel
theorem d_MD_writes_94 : decode c_MD_writes 94 = .ok (.ifCond .ge 8, 3) := by decide +kernel
theorem d_MD_writes_97 : decode c_MD_writes 97 = .ok (.iload 8, 2) := by decide +kernel
theorem d_MD_writes_99 : decode c_MD_writes 99 = .ok (.goto 5, 3) := by decide +kernel
theorem d_MD_writes_102 : decode c_MD_writes 102 = .ok (.iload 7, 2) := by decide +kernel
theorem d_MD_writes_104 : decode c_MD_writes 104 = .ok (.iload 4, 2) := by decide +kernel
theorem d_MD_writes_106 : decode c_MD_writes 106 = .ok (.iload 7, 2) := by decide +kernel
theorem d_MD_writes_108 : decode c_MD_writes 108 = .ok (.ifCond .ge 10, 3) := by decide +kernel
theorem d_MD_writes_111 : decode c_MD_writes 111 = .ok (.iload 6, 2) := by decide +kernel
theorem d_MD_writes_113 : decode c_MD_writes 113 = .ok (.iconst 1, 1) := by decide +kernel
theorem d_MD_writes_114 : decode c_MD_writes 114 = .ok (.iadd, 1) := by decide +kernel
theorem d_MD_writes_115 : decode c_MD_writes 115 = .ok (.goto 7, 3) := by decide +kernel
theorem d_MD_writes_118 : decode c_MD_writes 118 = .ok (.iload 5, 2) := by decide +kernel
theorem d_MD_writes_120 : decode c_MD_writes 120 = .ok (.iconst 1, 1) := by decide +kernel
theorem d_MD_writes_121 : decode c_MD_writes 121 = .ok (.iadd, 1) := by decide +kernel
theorem d_MD_writes_122 : decode c_MD_writes 122 = .ok (.invokevirtual 116, 3) := by decide +kernel
theorem d_MD_writes_125 : decode c_MD_writes 125 = .ok (.ifCond .ne 5, 3) := by decide +kernel
theorem d_MD_writes_128 : decode c_MD_writes 128 = .ok (.iconst 0, 1) := by decide +kernel
theorem d_MD_writes_129 : decode c_MD_writes 129 = .ok (.ireturn, 1) := by decide +kernel
theorem d_MD_writes_130 : decode c_MD_writes 130 = .ok (.aload_n 0, 1) := by decide +kernel
theorem d_MD_writes_131 : decode c_MD_writes 131 = .ok (.iload_n 1, 1) := by decide +kernel
theorem d_MD_writes_132 : decode c_MD_writes 132 = .ok (.invokevirtual 120, 3) := by decide +kernel
theorem d_MD_writes_135 : decode c_MD_writes 135 = .ok (.iconst 1, 1) := by decide +kernel
theorem d_MD_writes_136 : decode c_MD_writes 136 = .ok (.ireturn, 1) := by decide +kernel
theorem d_MD_writes_137 : decode c_MD_writes 137 = .ok (.aload_n 0, 1) := by decide +kernel
theorem d_MD_writes_138 : decode c_MD_writes 138 = .ok (.iload 8, 2) := by decide +kernel
theorem d_MD_writes_140 : decode c_MD_writes 140 = .ok (.aload_n 0, 1) := by decide +kernel
theorem d_MD_writes_141 : decode c_MD_writes 141 = .ok (.getfield 58, 3) := by decide +kernel
theorem d_MD_writes_144 : decode c_MD_writes 144 = .ok (.iconst 1, 1) := by decide +kernel
theorem d_MD_writes_145 : decode c_MD_writes 145 = .ok (.bipush 8, 2) := by decide +kernel
theorem d_MD_writes_147 : decode c_MD_writes 147 = .ok (.iload_n 2, 1) := by decide +kernel
theorem d_MD_writes_148 : decode c_MD_writes 148 = .ok (.imul, 1) := by decide +kernel
theorem d_MD_writes_149 : decode c_MD_writes 149 = .ok (.iadd, 1) := by decide +kernel
theorem d_MD_writes_150 : decode c_MD_writes 150 = .ok (.iload_n 3, 1) := by decide +kernel
theorem d_MD_writes_151 : decode c_MD_writes 151 = .ok (.iadd, 1) := by decide +kernel
theorem d_MD_writes_152 : decode c_MD_writes 152 = .ok (.invokevirtual 116, 3) := by decide +kernel
theorem d_MD_writes_155 : decode c_MD_writes 155 = .ok (.ifCond .eq 18, 3) := by decide +kernel
theorem d_MD_writes_158 : decode c_MD_writes 158 = .ok (.aload_n 0, 1) := by decide +kernel
theorem d_MD_writes_159 : decode c_MD_writes 159 = .ok (.iload 7, 2) := by decide +kernel
theorem d_MD_writes_161 : decode c_MD_writes 161 = .ok (.iload 4, 2) := by decide +kernel
theorem d_MD_writes_163 : decode c_MD_writes 163 = .ok (.iload 5, 2) := by decide +kernel
theorem d_MD_writes_165 : decode c_MD_writes 165 = .ok (.iconst 1, 1) := by decide +kernel
theorem d_MD_writes_166 : decode c_MD_writes 166 = .ok (.iadd, 1) := by decide +kernel
theorem d_MD_writes_167 : decode c_MD_writes 167 = .ok (.invokevirtual 116, 3) := by decide +kernel
theorem d_MD_writes_170 : decode c_MD_writes 170 = .ok (.ifCond .ne 5, 3) := by decide +kernel
theorem d_MD_writes_173 : decode c_MD_writes 173 = .ok (.iconst 0, 1) := by decide +kernel
theorem d_MD_writes_174 : decode c_MD_writes 174 = .ok (.ireturn, 1) := by decide +kernel
theorem d_MD_writes_175 : decode c_MD_writes 175 = .ok (.aload_n 0, 1) := by decide +kernel
theorem d_MD_writes_176 : decode c_MD_writes 176 = .ok (.iload_n 1, 1) := by decide +kernel
theorem d_MD_writes_177 : decode c_MD_writes 177 = .ok (.invokevirtual 120, 3) := by decide +kernel
theorem d_MD_writes_180 : decode c_MD_writes 180 = .ok (.aload_n 0, 1) := by decide +kernel
theorem d_MD_writes_181 : decode c_MD_writes 181 = .ok (.iload_n 1, 1) := by decide +kernel
theorem d_MD_writes_182 : decode c_MD_writes 182 = .ok (.putfield 46, 3) := by decide +kernel
theorem d_MD_writes_185 : decode c_MD_writes 185 = .ok (.aload_n 0, 1) := by decide +kernel
theorem d_MD_writes_186 : decode c_MD_writes 186 = .ok (.iconst 1, 1) := by decide +kernel
theorem d_MD_writes_187 : decode c_MD_writes 187 = .ok (.putfield 124, 3) := by decide +kernel
theorem d_MD_writes_190 : decode c_MD_writes 190 = .ok (.aload_n 0, 1) := by decide +kernel
theorem d_MD_writes_191 : decode c_MD_writes 191 = .ok (.iload 8, 2) := by decide +kernel
theorem d_MD_writes_193 : decode c_MD_writes 193 = .ok (.iload 4, 2) := by decide +kernel
theorem d_MD_writes_195 : decode c_MD_writes 195 = .ok (.iload 6, 2) := by decide +kernel
theorem d_MD_writes_197 : decode c_MD_writes 197 = .ok (.iconst 1, 1) := by decide +kernel
theorem d_MD_writes_198 : decode c_MD_writes 198 = .ok (.iadd, 1) := by decide +kernel
theorem d_MD_writes_199 : decode c_MD_writes 199 = .ok (.invokevirtual 116, 3) := by decide +kernel
theorem d_MD_writes_202 : decode c_MD_writes 202 = .ok (.ifCond .ne 5, 3) := by decide +kernel
theorem d_MD_writes_205 : decode c_MD_writes 205 = .ok (.iconst 0, 1) := by decide +kernel
theorem d_MD_writes_206 : decode c_MD_writes 206 = .ok (.ireturn, 1) := by decide +kernel
theorem d_MD_writes_207 : decode c_MD_writes 207 = .ok (.aload_n 0, 1) := by decide +kernel
theorem d_MD_writes_208 : decode c_MD_writes 208 = .ok (.iconst 0, 1) := by decide +kernel
theorem d_MD_writes_209 : decode c_MD_writes 209 = .ok (.putfield 124, 3) := by decide +kernel
theorem d_MD_writes_212 : decode c_MD_writes 212 = .ok (.aload_n 0, 1) := by decide +kernel
theorem d_MD_writes_213 : decode c_MD_writes 213 = .ok (.iload 8, 2) := by decide +kernel
theorem d_MD_writes_215 : decode c_MD_writes 215 = .ok (.aload_n 0, 1) := by decide +kernel
theorem d_MD_writes_216 : decode c_MD_writes 216 = .ok (.getfield 58, 3) := by decide +kernel
theorem d_MD_writes_219 : decode c_MD_writes 219 = .ok (.iconst 0, 1) := by decide +kernel
theorem d_MD_writes_220 : decode c_MD_writes 220 = .ok (.invokevirtual 116, 3) := by decide +kernel
theorem d_MD_writes_223 : decode c_MD_writes 223 = .ok (.ireturn, 1) := by decide +kernel
abbrev c_MD_placeOf : ByteArray := prog_7_method_9_code
abbrev y_MD_placeOf : MethodName := ⟨"StripeFieldModel", "placeOf", "(II)I"⟩
theorem d_MD_placeOf_0 : decode c_MD_placeOf 0 = .ok (.aload_n 0, 1) := by decide +kernel
theorem d_MD_placeOf_1 : decode c_MD_placeOf 1 = .ok (.getfield 31, 3) := by decide +kernel
theorem d_MD_placeOf_4 : decode c_MD_placeOf 4 = .ok (.ifCond .eq 17, 3) := by decide +kernel
theorem d_MD_placeOf_7 : decode c_MD_placeOf 7 = .ok (.aload_n 0, 1) := by decide +kernel
theorem d_MD_placeOf_8 : decode c_MD_placeOf 8 = .ok (.getfield 28, 3) := by decide +kernel
theorem d_MD_placeOf_11 : decode c_MD_placeOf 11 = .ok (.bipush 16, 2) := by decide +kernel
theorem d_MD_placeOf_13 : decode c_MD_placeOf 13 = .ok (.iload_n 1, 1) := by decide +kernel
theorem d_MD_placeOf_14 : decode c_MD_placeOf 14 = .ok (.imul, 1) := by decide +kernel
theorem d_MD_placeOf_15 : decode c_MD_placeOf 15 = .ok (.iload_n 2, 1) := by decide +kernel
theorem d_MD_placeOf_16 : decode c_MD_placeOf 16 = .ok (.iadd, 1) := by decide +kernel
theorem d_MD_placeOf_17 : decode c_MD_placeOf 17 = .ok (.iaload, 1) := by decide +kernel
theorem d_MD_placeOf_18 : decode c_MD_placeOf 18 = .ok (.goto 9, 3) := by decide +kernel
theorem d_MD_placeOf_21 : decode c_MD_placeOf 21 = .ok (.aload_n 0, 1) := by decide +kernel
theorem d_MD_placeOf_22 : decode c_MD_placeOf 22 = .ok (.iload_n 1, 1) := by decide +kernel
theorem d_MD_placeOf_23 : decode c_MD_placeOf 23 = .ok (.iload_n 2, 1) := by decide +kernel
theorem d_MD_placeOf_24 : decode c_MD_placeOf 24 = .ok (.invokevirtual 81, 3) := by decide +kernel
theorem d_MD_placeOf_27 : decode c_MD_placeOf 27 = .ok (.ireturn, 1) := by decide +kernel
abbrev c_MD_found : ByteArray := prog_7_method_8_code
abbrev y_MD_found : MethodName := ⟨"StripeFieldModel", "found", "(II)I"⟩
theorem d_MD_found_0 : decode c_MD_found 0 = .ok (.aload_n 0, 1) := by decide +kernel
theorem d_MD_found_1 : decode c_MD_found 1 = .ok (.iload_n 1, 1) := by decide +kernel
theorem d_MD_found_2 : decode c_MD_found 2 = .ok (.iload_n 2, 1) := by decide +kernel
theorem d_MD_found_3 : decode c_MD_found 3 = .ok (.invokevirtual 71, 3) := by decide +kernel
theorem d_MD_found_6 : decode c_MD_found 6 = .ok (.istore_n 3, 1) := by decide +kernel
theorem d_MD_found_7 : decode c_MD_found 7 = .ok (.aload_n 0, 1) := by decide +kernel
theorem d_MD_found_8 : decode c_MD_found 8 = .ok (.getfield 13, 3) := by decide +kernel
theorem d_MD_found_11 : decode c_MD_found 11 = .ok (.iload_n 3, 1) := by decide +kernel
theorem d_MD_found_12 : decode c_MD_found 12 = .ok (.baload, 1) := by decide +kernel
theorem d_MD_found_13 : decode c_MD_found 13 = .ok (.ifCond .eq 18, 3) := by decide +kernel
theorem d_MD_found_16 : decode c_MD_found 16 = .ok (.aload_n 0, 1) := by decide +kernel
theorem d_MD_found_17 : decode c_MD_found 17 = .ok (.getfield 17, 3) := by decide +kernel
theorem d_MD_found_20 : decode c_MD_found 20 = .ok (.iload_n 3, 1) := by decide +kernel
theorem d_MD_found_21 : decode c_MD_found 21 = .ok (.iload_n 1, 1) := by decide +kernel
theorem d_MD_found_22 : decode c_MD_found 22 = .ok (.invokestatic 67, 3) := by decide +kernel
theorem d_MD_found_25 : decode c_MD_found 25 = .ok (.baload, 1) := by decide +kernel
theorem d_MD_found_26 : decode c_MD_found 26 = .ok (.ifCond .eq 5, 3) := by decide +kernel
theorem d_MD_found_29 : decode c_MD_found 29 = .ok (.iload_n 3, 1) := by decide +kernel
theorem d_MD_found_30 : decode c_MD_found 30 = .ok (.ireturn, 1) := by decide +kernel
theorem d_MD_found_31 : decode c_MD_found 31 = .ok (.aload_n 0, 1) := by decide +kernel
theorem d_MD_found_32 : decode c_MD_found 32 = .ok (.getfield 55, 3) := by decide +kernel
theorem d_MD_found_35 : decode c_MD_found 35 = .ok (.aload_n 0, 1) := by decide +kernel
theorem d_MD_found_36 : decode c_MD_found 36 = .ok (.getfield 61, 3) := by decide +kernel
theorem d_MD_found_39 : decode c_MD_found 39 = .ok (.imul, 1) := by decide +kernel
theorem d_MD_found_40 : decode c_MD_found 40 = .ok (.istore 4, 2) := by decide +kernel
theorem d_MD_found_42 : decode c_MD_found 42 = .ok (.iload 4, 2) := by decide +kernel
theorem d_MD_found_44 : decode c_MD_found 44 = .ok (.aload_n 0, 1) := by decide +kernel
theorem d_MD_found_45 : decode c_MD_found 45 = .ok (.getfield 52, 3) := by decide +kernel
theorem d_MD_found_48 : decode c_MD_found 48 = .ok (.if_icmp .ge 48, 3) := by decide +kernel
theorem d_MD_found_51 : decode c_MD_found 51 = .ok (.aload_n 0, 1) := by decide +kernel
theorem d_MD_found_52 : decode c_MD_found 52 = .ok (.iload_n 1, 1) := by decide +kernel
theorem d_MD_found_53 : decode c_MD_found 53 = .ok (.iload 4, 2) := by decide +kernel
theorem d_MD_found_55 : decode c_MD_found 55 = .ok (.invokevirtual 71, 3) := by decide +kernel
theorem d_MD_found_58 : decode c_MD_found 58 = .ok (.istore 5, 2) := by decide +kernel
theorem d_MD_found_60 : decode c_MD_found 60 = .ok (.aload_n 0, 1) := by decide +kernel
theorem d_MD_found_61 : decode c_MD_found 61 = .ok (.iload 5, 2) := by decide +kernel
theorem d_MD_found_63 : decode c_MD_found 63 = .ok (.iload_n 1, 1) := by decide +kernel
theorem d_MD_found_64 : decode c_MD_found 64 = .ok (.invokevirtual 77, 3) := by decide +kernel
theorem d_MD_found_67 : decode c_MD_found 67 = .ok (.ifCond .eq 23, 3) := by decide +kernel
theorem d_MD_found_70 : decode c_MD_found 70 = .ok (.aload_n 0, 1) := by decide +kernel
theorem d_MD_found_71 : decode c_MD_found 71 = .ok (.getfield 20, 3) := by decide +kernel
theorem d_MD_found_74 : decode c_MD_found 74 = .ok (.iload 5, 2) := by decide +kernel
theorem d_MD_found_76 : decode c_MD_found 76 = .ok (.iload_n 1, 1) := by decide +kernel
theorem d_MD_found_77 : decode c_MD_found 77 = .ok (.invokestatic 67, 3) := by decide +kernel
theorem d_MD_found_80 : decode c_MD_found 80 = .ok (.iaload, 1) := by decide +kernel
theorem d_MD_found_81 : decode c_MD_found 81 = .ok (.iload_n 2, 1) := by decide +kernel
theorem d_MD_found_82 : decode c_MD_found 82 = .ok (.iconst 1, 1) := by decide +kernel
theorem d_MD_found_83 : decode c_MD_found 83 = .ok (.iadd, 1) := by decide +kernel
theorem d_MD_found_84 : decode c_MD_found 84 = .ok (.if_icmp .ne 6, 3) := by decide +kernel
theorem d_MD_found_87 : decode c_MD_found 87 = .ok (.iload 5, 2) := by decide +kernel
theorem d_MD_found_89 : decode c_MD_found 89 = .ok (.ireturn, 1) := by decide +kernel
theorem d_MD_found_90 : decode c_MD_found 90 = .ok (.iinc 4 1, 3) := by decide +kernel
theorem d_MD_found_93 : decode c_MD_found 93 = .ok (.goto (-51), 3) := by decide +kernel
theorem d_MD_found_96 : decode c_MD_found 96 = .ok (.iconst (-1), 1) := by decide +kernel
theorem d_MD_found_97 : decode c_MD_found 97 = .ok (.ireturn, 1) := by decide +kernel
abbrev c_MD_isValid : ByteArray := prog_7_method_7_code
abbrev y_MD_isValid : MethodName := ⟨"StripeFieldModel", "isValid", "(II)Z"⟩
theorem d_MD_isValid_0 : decode c_MD_isValid 0 = .ok (.aload_n 0, 1) := by decide +kernel
theorem d_MD_isValid_1 : decode c_MD_isValid 1 = .ok (.getfield 13, 3) := by decide +kernel
theorem d_MD_isValid_4 : decode c_MD_isValid 4 = .ok (.iload_n 1, 1) := by decide +kernel
theorem d_MD_isValid_5 : decode c_MD_isValid 5 = .ok (.baload, 1) := by decide +kernel
theorem d_MD_isValid_6 : decode c_MD_isValid 6 = .ok (.ifCond .eq 16, 3) := by decide +kernel
theorem d_MD_isValid_9 : decode c_MD_isValid 9 = .ok (.aload_n 0, 1) := by decide +kernel
theorem d_MD_isValid_10 : decode c_MD_isValid 10 = .ok (.getfield 17, 3) := by decide +kernel
theorem d_MD_isValid_13 : decode c_MD_isValid 13 = .ok (.iload_n 1, 1) := by decide +kernel
theorem d_MD_isValid_14 : decode c_MD_isValid 14 = .ok (.iload_n 2, 1) := by decide +kernel
theorem d_MD_isValid_15 : decode c_MD_isValid 15 = .ok (.invokestatic 67, 3) := by decide +kernel
theorem d_MD_isValid_18 : decode c_MD_isValid 18 = .ok (.baload, 1) := by decide +kernel
theorem d_MD_isValid_19 : decode c_MD_isValid 19 = .ok (.ifCond .ne 5, 3) := by decide +kernel
theorem d_MD_isValid_22 : decode c_MD_isValid 22 = .ok (.iconst 0, 1) := by decide +kernel
theorem d_MD_isValid_23 : decode c_MD_isValid 23 = .ok (.ireturn, 1) := by decide +kernel
theorem d_MD_isValid_24 : decode c_MD_isValid 24 = .ok (.iconst 1, 1) := by decide +kernel
theorem d_MD_isValid_25 : decode c_MD_isValid 25 = .ok (.istore_n 3, 1) := by decide +kernel
theorem d_MD_isValid_26 : decode c_MD_isValid 26 = .ok (.bipush 70, 2) := by decide +kernel
theorem d_MD_isValid_28 : decode c_MD_isValid 28 = .ok (.iload_n 1, 1) := by decide +kernel
theorem d_MD_isValid_29 : decode c_MD_isValid 29 = .ok (.iload_n 2, 1) := by decide +kernel
theorem d_MD_isValid_30 : decode c_MD_isValid 30 = .ok (.invokestatic 67, 3) := by decide +kernel
theorem d_MD_isValid_33 : decode c_MD_isValid 33 = .ok (.imul, 1) := by decide +kernel
theorem d_MD_isValid_34 : decode c_MD_isValid 34 = .ok (.istore 4, 2) := by decide +kernel
theorem d_MD_isValid_36 : decode c_MD_isValid 36 = .ok (.iload 4, 2) := by decide +kernel
theorem d_MD_isValid_38 : decode c_MD_isValid 38 = .ok (.bipush 70, 2) := by decide +kernel
theorem d_MD_isValid_40 : decode c_MD_isValid 40 = .ok (.iload_n 1, 1) := by decide +kernel
theorem d_MD_isValid_41 : decode c_MD_isValid 41 = .ok (.iload_n 2, 1) := by decide +kernel
theorem d_MD_isValid_42 : decode c_MD_isValid 42 = .ok (.invokestatic 67, 3) := by decide +kernel
theorem d_MD_isValid_45 : decode c_MD_isValid 45 = .ok (.imul, 1) := by decide +kernel
theorem d_MD_isValid_46 : decode c_MD_isValid 46 = .ok (.bipush 70, 2) := by decide +kernel
theorem d_MD_isValid_48 : decode c_MD_isValid 48 = .ok (.iadd, 1) := by decide +kernel
theorem d_MD_isValid_49 : decode c_MD_isValid 49 = .ok (.if_icmp .ge 29, 3) := by decide +kernel
theorem d_MD_isValid_52 : decode c_MD_isValid 52 = .ok (.iload_n 3, 1) := by decide +kernel
theorem d_MD_isValid_53 : decode c_MD_isValid 53 = .ok (.ifCond .eq 17, 3) := by decide +kernel
theorem d_MD_isValid_56 : decode c_MD_isValid 56 = .ok (.aload_n 0, 1) := by decide +kernel
theorem d_MD_isValid_57 : decode c_MD_isValid 57 = .ok (.getfield 24, 3) := by decide +kernel
theorem d_MD_isValid_60 : decode c_MD_isValid 60 = .ok (.iload 4, 2) := by decide +kernel
theorem d_MD_isValid_62 : decode c_MD_isValid 62 = .ok (.baload, 1) := by decide +kernel
theorem d_MD_isValid_63 : decode c_MD_isValid 63 = .ok (.ifCond .ne 7, 3) := by decide +kernel
theorem d_MD_isValid_66 : decode c_MD_isValid 66 = .ok (.iconst 1, 1) := by decide +kernel
theorem d_MD_isValid_67 : decode c_MD_isValid 67 = .ok (.goto 4, 3) := by decide +kernel
theorem d_MD_isValid_70 : decode c_MD_isValid 70 = .ok (.iconst 0, 1) := by decide +kernel
theorem d_MD_isValid_71 : decode c_MD_isValid 71 = .ok (.istore_n 3, 1) := by decide +kernel
theorem d_MD_isValid_72 : decode c_MD_isValid 72 = .ok (.iinc 4 1, 3) := by decide +kernel
theorem d_MD_isValid_75 : decode c_MD_isValid 75 = .ok (.goto (-39), 3) := by decide +kernel
theorem d_MD_isValid_78 : decode c_MD_isValid 78 = .ok (.iload_n 3, 1) := by decide +kernel
theorem d_MD_isValid_79 : decode c_MD_isValid 79 = .ok (.ireturn, 1) := by decide +kernel
abbrev c_MD_puts : ByteArray := prog_7_method_15_code
abbrev y_MD_puts : MethodName := ⟨"StripeFieldModel", "puts", "(III)Z"⟩
theorem d_MD_puts_0 : decode c_MD_puts 0 = .ok (.aload_n 0, 1) := by decide +kernel
theorem d_MD_puts_1 : decode c_MD_puts 1 = .ok (.getfield 35, 3) := by decide +kernel
theorem d_MD_puts_4 : decode c_MD_puts 4 = .ok (.ifCond .ne 15, 3) := by decide +kernel
theorem d_MD_puts_7 : decode c_MD_puts 7 = .ok (.aload_n 0, 1) := by decide +kernel
theorem d_MD_puts_8 : decode c_MD_puts 8 = .ok (.iconst 0, 1) := by decide +kernel
theorem d_MD_puts_9 : decode c_MD_puts 9 = .ok (.putfield 31, 3) := by decide +kernel
theorem d_MD_puts_12 : decode c_MD_puts 12 = .ok (.aload_n 0, 1) := by decide +kernel
theorem d_MD_puts_13 : decode c_MD_puts 13 = .ok (.iconst (-1), 1) := by decide +kernel
theorem d_MD_puts_14 : decode c_MD_puts 14 = .ok (.putfield 35, 3) := by decide +kernel
theorem d_MD_puts_17 : decode c_MD_puts 17 = .ok (.iconst 0, 1) := by decide +kernel
theorem d_MD_puts_18 : decode c_MD_puts 18 = .ok (.ireturn, 1) := by decide +kernel
theorem d_MD_puts_19 : decode c_MD_puts 19 = .ok (.aload_n 0, 1) := by decide +kernel
theorem d_MD_puts_20 : decode c_MD_puts 20 = .ok (.getfield 35, 3) := by decide +kernel
theorem d_MD_puts_23 : decode c_MD_puts 23 = .ok (.ifCond .le 13, 3) := by decide +kernel
theorem d_MD_puts_26 : decode c_MD_puts 26 = .ok (.aload_n 0, 1) := by decide +kernel
theorem d_MD_puts_27 : decode c_MD_puts 27 = .ok (.dup, 1) := by decide +kernel
theorem d_MD_puts_28 : decode c_MD_puts 28 = .ok (.getfield 35, 3) := by decide +kernel
theorem d_MD_puts_31 : decode c_MD_puts 31 = .ok (.iconst 1, 1) := by decide +kernel
theorem d_MD_puts_32 : decode c_MD_puts 32 = .ok (.isub, 1) := by decide +kernel
theorem d_MD_puts_33 : decode c_MD_puts 33 = .ok (.putfield 35, 3) := by decide +kernel
theorem d_MD_puts_36 : decode c_MD_puts 36 = .ok (.aload_n 0, 1) := by decide +kernel
theorem d_MD_puts_37 : decode c_MD_puts 37 = .ok (.dup, 1) := by decide +kernel
theorem d_MD_puts_38 : decode c_MD_puts 38 = .ok (.getfield 97, 3) := by decide +kernel
theorem d_MD_puts_41 : decode c_MD_puts 41 = .ok (.iconst 1, 1) := by decide +kernel
theorem d_MD_puts_42 : decode c_MD_puts 42 = .ok (.iadd, 1) := by decide +kernel
theorem d_MD_puts_43 : decode c_MD_puts 43 = .ok (.putfield 97, 3) := by decide +kernel
theorem d_MD_puts_46 : decode c_MD_puts 46 = .ok (.aload_n 0, 1) := by decide +kernel
theorem d_MD_puts_47 : decode c_MD_puts 47 = .ok (.getfield 17, 3) := by decide +kernel
theorem d_MD_puts_50 : decode c_MD_puts 50 = .ok (.iload_n 1, 1) := by decide +kernel
theorem d_MD_puts_51 : decode c_MD_puts 51 = .ok (.iload_n 2, 1) := by decide +kernel
theorem d_MD_puts_52 : decode c_MD_puts 52 = .ok (.invokestatic 67, 3) := by decide +kernel
theorem d_MD_puts_55 : decode c_MD_puts 55 = .ok (.iconst 1, 1) := by decide +kernel
theorem d_MD_puts_56 : decode c_MD_puts 56 = .ok (.bastore, 1) := by decide +kernel
theorem d_MD_puts_57 : decode c_MD_puts 57 = .ok (.aload_n 0, 1) := by decide +kernel
theorem d_MD_puts_58 : decode c_MD_puts 58 = .ok (.getfield 20, 3) := by decide +kernel
theorem d_MD_puts_61 : decode c_MD_puts 61 = .ok (.iload_n 1, 1) := by decide +kernel
theorem d_MD_puts_62 : decode c_MD_puts 62 = .ok (.iload_n 2, 1) := by decide +kernel
theorem d_MD_puts_63 : decode c_MD_puts 63 = .ok (.invokestatic 67, 3) := by decide +kernel
theorem d_MD_puts_66 : decode c_MD_puts 66 = .ok (.iload_n 3, 1) := by decide +kernel
theorem d_MD_puts_67 : decode c_MD_puts 67 = .ok (.iastore, 1) := by decide +kernel
theorem d_MD_puts_68 : decode c_MD_puts 68 = .ok (.bipush 70, 2) := by decide +kernel
theorem d_MD_puts_70 : decode c_MD_puts 70 = .ok (.iload_n 1, 1) := by decide +kernel
theorem d_MD_puts_71 : decode c_MD_puts 71 = .ok (.iload_n 2, 1) := by decide +kernel
theorem d_MD_puts_72 : decode c_MD_puts 72 = .ok (.invokestatic 67, 3) := by decide +kernel
theorem d_MD_puts_75 : decode c_MD_puts 75 = .ok (.imul, 1) := by decide +kernel
theorem d_MD_puts_76 : decode c_MD_puts 76 = .ok (.istore 4, 2) := by decide +kernel
theorem d_MD_puts_78 : decode c_MD_puts 78 = .ok (.iload 4, 2) := by decide +kernel
theorem d_MD_puts_80 : decode c_MD_puts 80 = .ok (.bipush 70, 2) := by decide +kernel
theorem d_MD_puts_82 : decode c_MD_puts 82 = .ok (.iload_n 1, 1) := by decide +kernel
theorem d_MD_puts_83 : decode c_MD_puts 83 = .ok (.iload_n 2, 1) := by decide +kernel
theorem d_MD_puts_84 : decode c_MD_puts 84 = .ok (.invokestatic 67, 3) := by decide +kernel
theorem d_MD_puts_87 : decode c_MD_puts 87 = .ok (.imul, 1) := by decide +kernel
theorem d_MD_puts_88 : decode c_MD_puts 88 = .ok (.bipush 70, 2) := by decide +kernel
theorem d_MD_puts_90 : decode c_MD_puts 90 = .ok (.iadd, 1) := by decide +kernel
theorem d_MD_puts_91 : decode c_MD_puts 91 = .ok (.if_icmp .ge 17, 3) := by decide +kernel
theorem d_MD_puts_94 : decode c_MD_puts 94 = .ok (.aload_n 0, 1) := by decide +kernel
theorem d_MD_puts_95 : decode c_MD_puts 95 = .ok (.getfield 24, 3) := by decide +kernel
theorem d_MD_puts_98 : decode c_MD_puts 98 = .ok (.iload 4, 2) := by decide +kernel
theorem d_MD_puts_100 : decode c_MD_puts 100 = .ok (.iconst 0, 1) := by decide +kernel
theorem d_MD_puts_101 : decode c_MD_puts 101 = .ok (.bastore, 1) := by decide +kernel
theorem d_MD_puts_102 : decode c_MD_puts 102 = .ok (.iinc 4 1, 3) := by decide +kernel
theorem d_MD_puts_105 : decode c_MD_puts 105 = .ok (.goto (-27), 3) := by decide +kernel
theorem d_MD_puts_108 : decode c_MD_puts 108 = .ok (.iconst 1, 1) := by decide +kernel
theorem d_MD_puts_109 : decode c_MD_puts 109 = .ok (.ireturn, 1) := by decide +kernel
abbrev c_MD_becomes : ByteArray := prog_7_method_17_code
abbrev y_MD_becomes : MethodName := ⟨"StripeFieldModel", "becomes", "(I)V"⟩
theorem d_MD_becomes_0 : decode c_MD_becomes 0 = .ok (.iconst 0, 1) := by decide +kernel
theorem d_MD_becomes_1 : decode c_MD_becomes 1 = .ok (.istore_n 2, 1) := by decide +kernel
theorem d_MD_becomes_2 : decode c_MD_becomes 2 = .ok (.iload_n 2, 1) := by decide +kernel
theorem d_MD_becomes_3 : decode c_MD_becomes 3 = .ok (.bipush 64, 2) := by decide +kernel
theorem d_MD_becomes_5 : decode c_MD_becomes 5 = .ok (.if_icmp .ge 55, 3) := by decide +kernel
theorem d_MD_becomes_8 : decode c_MD_becomes 8 = .ok (.aload_n 0, 1) := by decide +kernel
theorem d_MD_becomes_9 : decode c_MD_becomes 9 = .ok (.getfield 49, 3) := by decide +kernel
theorem d_MD_becomes_12 : decode c_MD_becomes 12 = .ok (.iload_n 2, 1) := by decide +kernel
theorem d_MD_becomes_13 : decode c_MD_becomes 13 = .ok (.aload_n 0, 1) := by decide +kernel
theorem d_MD_becomes_14 : decode c_MD_becomes 14 = .ok (.getfield 43, 3) := by decide +kernel
theorem d_MD_becomes_17 : decode c_MD_becomes 17 = .ok (.bipush 64, 2) := by decide +kernel
theorem d_MD_becomes_19 : decode c_MD_becomes 19 = .ok (.iload_n 1, 1) := by decide +kernel
theorem d_MD_becomes_20 : decode c_MD_becomes 20 = .ok (.imul, 1) := by decide +kernel
theorem d_MD_becomes_21 : decode c_MD_becomes 21 = .ok (.iload_n 2, 1) := by decide +kernel
theorem d_MD_becomes_22 : decode c_MD_becomes 22 = .ok (.iadd, 1) := by decide +kernel
theorem d_MD_becomes_23 : decode c_MD_becomes 23 = .ok (.iaload, 1) := by decide +kernel
theorem d_MD_becomes_24 : decode c_MD_becomes 24 = .ok (.iastore, 1) := by decide +kernel
theorem d_MD_becomes_25 : decode c_MD_becomes 25 = .ok (.aload_n 0, 1) := by decide +kernel
theorem d_MD_becomes_26 : decode c_MD_becomes 26 = .ok (.getfield 43, 3) := by decide +kernel
theorem d_MD_becomes_29 : decode c_MD_becomes 29 = .ok (.bipush 64, 2) := by decide +kernel
theorem d_MD_becomes_31 : decode c_MD_becomes 31 = .ok (.iload_n 1, 1) := by decide +kernel
theorem d_MD_becomes_32 : decode c_MD_becomes 32 = .ok (.imul, 1) := by decide +kernel
theorem d_MD_becomes_33 : decode c_MD_becomes 33 = .ok (.iload_n 2, 1) := by decide +kernel
theorem d_MD_becomes_34 : decode c_MD_becomes 34 = .ok (.iadd, 1) := by decide +kernel
theorem d_MD_becomes_35 : decode c_MD_becomes 35 = .ok (.iload_n 2, 1) := by decide +kernel
theorem d_MD_becomes_36 : decode c_MD_becomes 36 = .ok (.aload_n 0, 1) := by decide +kernel
theorem d_MD_becomes_37 : decode c_MD_becomes 37 = .ok (.getfield 104, 3) := by decide +kernel
theorem d_MD_becomes_40 : decode c_MD_becomes 40 = .ok (.if_icmp .ge 12, 3) := by decide +kernel
theorem d_MD_becomes_43 : decode c_MD_becomes 43 = .ok (.aload_n 0, 1) := by decide +kernel
theorem d_MD_becomes_44 : decode c_MD_becomes 44 = .ok (.getfield 39, 3) := by decide +kernel
theorem d_MD_becomes_47 : decode c_MD_becomes 47 = .ok (.iload_n 2, 1) := by decide +kernel
theorem d_MD_becomes_48 : decode c_MD_becomes 48 = .ok (.iaload, 1) := by decide +kernel
theorem d_MD_becomes_49 : decode c_MD_becomes 49 = .ok (.goto 4, 3) := by decide +kernel
theorem d_MD_becomes_52 : decode c_MD_becomes 52 = .ok (.iconst 0, 1) := by decide +kernel
theorem d_MD_becomes_53 : decode c_MD_becomes 53 = .ok (.iastore, 1) := by decide +kernel
theorem d_MD_becomes_54 : decode c_MD_becomes 54 = .ok (.iinc 2 1, 3) := by decide +kernel
theorem d_MD_becomes_57 : decode c_MD_becomes 57 = .ok (.goto (-55), 3) := by decide +kernel
theorem d_MD_becomes_60 : decode c_MD_becomes 60 = .ok (.return_, 1) := by decide +kernel
abbrev c_MD_read : ByteArray := prog_7_method_20_code
abbrev y_MD_read : MethodName := ⟨"StripeFieldModel", "read", "(II)J"⟩
theorem d_MD_read_0 : decode c_MD_read 0 = .ok (.aload_n 0, 1) := by decide +kernel
theorem d_MD_read_1 : decode c_MD_read 1 = .ok (.iload_n 1, 1) := by decide +kernel
theorem d_MD_read_2 : decode c_MD_read 2 = .ok (.ifCond .lt 21, 3) := by decide +kernel
theorem d_MD_read_5 : decode c_MD_read 5 = .ok (.iload_n 1, 1) := by decide +kernel
theorem d_MD_read_6 : decode c_MD_read 6 = .ok (.aload_n 0, 1) := by decide +kernel
theorem d_MD_read_7 : decode c_MD_read 7 = .ok (.invokevirtual 109, 3) := by decide +kernel
theorem d_MD_read_10 : decode c_MD_read 10 = .ok (.if_icmp .ge 13, 3) := by decide +kernel
theorem d_MD_read_13 : decode c_MD_read 13 = .ok (.iload_n 2, 1) := by decide +kernel
theorem d_MD_read_14 : decode c_MD_read 14 = .ok (.ifCond .lt 9, 3) := by decide +kernel
theorem d_MD_read_17 : decode c_MD_read 17 = .ok (.iload_n 2, 1) := by decide +kernel
theorem d_MD_read_18 : decode c_MD_read 18 = .ok (.bipush 7, 2) := by decide +kernel
theorem d_MD_read_20 : decode c_MD_read 20 = .ok (.if_icmp .le 7, 3) := by decide +kernel
theorem d_MD_read_23 : decode c_MD_read 23 = .ok (.iconst 1, 1) := by decide +kernel
theorem d_MD_read_24 : decode c_MD_read 24 = .ok (.goto 4, 3) := by decide +kernel
theorem d_MD_read_27 : decode c_MD_read 27 = .ok (.iconst 0, 1) := by decide +kernel
theorem d_MD_read_28 : decode c_MD_read 28 = .ok (.iconst 1, 1) := by decide +kernel
theorem d_MD_read_29 : decode c_MD_read 29 = .ok (.invokevirtual 100, 3) := by decide +kernel
theorem d_MD_read_32 : decode c_MD_read 32 = .ok (.ifCond .ne 23, 3) := by decide +kernel
theorem d_MD_read_35 : decode c_MD_read 35 = .ok (.aload_n 0, 1) := by decide +kernel
theorem d_MD_read_36 : decode c_MD_read 36 = .ok (.aload_n 0, 1) := by decide +kernel
theorem d_MD_read_37 : decode c_MD_read 37 = .ok (.getfield 31, 3) := by decide +kernel
theorem d_MD_read_40 : decode c_MD_read 40 = .ok (.ifCond .ne 7, 3) := by decide +kernel
theorem d_MD_read_43 : decode c_MD_read 43 = .ok (.iconst 1, 1) := by decide +kernel
theorem d_MD_read_44 : decode c_MD_read 44 = .ok (.goto 4, 3) := by decide +kernel
theorem d_MD_read_47 : decode c_MD_read 47 = .ok (.iconst 0, 1) := by decide +kernel
theorem d_MD_read_48 : decode c_MD_read 48 = .ok (.iconst 2, 1) := by decide +kernel
theorem d_MD_read_49 : decode c_MD_read 49 = .ok (.invokevirtual 100, 3) := by decide +kernel
theorem d_MD_read_52 : decode c_MD_read 52 = .ok (.ifCond .eq 5, 3) := by decide +kernel
theorem d_MD_read_55 : decode c_MD_read 55 = .ok (.lconst 0, 1) := by decide +kernel
theorem d_MD_read_56 : decode c_MD_read 56 = .ok (.lreturn, 1) := by decide +kernel
theorem d_MD_read_57 : decode c_MD_read 57 = .ok (.lconst 0, 1) := by decide +kernel
theorem d_MD_read_58 : decode c_MD_read 58 = .ok (.lstore_n 3, 1) := by decide +kernel
theorem d_MD_read_59 : decode c_MD_read 59 = .ok (.bipush 7, 2) := by decide +kernel
theorem d_MD_read_61 : decode c_MD_read 61 = .ok (.istore 5, 2) := by decide +kernel
theorem d_MD_read_63 : decode c_MD_read 63 = .ok (.iload 5, 2) := by decide +kernel
theorem d_MD_read_65 : decode c_MD_read 65 = .ok (.ifCond .lt 33, 3) := by decide +kernel
theorem d_MD_read_68 : decode c_MD_read 68 = .ok (.lload_n 3, 1) := by decide +kernel
theorem d_MD_read_69 : decode c_MD_read 69 = .ok (.bipush 8, 2) := by decide +kernel
theorem d_MD_read_71 : decode c_MD_read 71 = .ok (.lshl, 1) := by decide +kernel
theorem d_MD_read_72 : decode c_MD_read 72 = .ok (.aload_n 0, 1) := by decide +kernel
theorem d_MD_read_73 : decode c_MD_read 73 = .ok (.getfield 43, 3) := by decide +kernel
theorem d_MD_read_76 : decode c_MD_read 76 = .ok (.bipush 64, 2) := by decide +kernel
theorem d_MD_read_78 : decode c_MD_read 78 = .ok (.iload_n 1, 1) := by decide +kernel
theorem d_MD_read_79 : decode c_MD_read 79 = .ok (.imul, 1) := by decide +kernel
theorem d_MD_read_80 : decode c_MD_read 80 = .ok (.bipush 8, 2) := by decide +kernel
theorem d_MD_read_82 : decode c_MD_read 82 = .ok (.iload_n 2, 1) := by decide +kernel
theorem d_MD_read_83 : decode c_MD_read 83 = .ok (.imul, 1) := by decide +kernel
theorem d_MD_read_84 : decode c_MD_read 84 = .ok (.iadd, 1) := by decide +kernel
theorem d_MD_read_85 : decode c_MD_read 85 = .ok (.iload 5, 2) := by decide +kernel
theorem d_MD_read_87 : decode c_MD_read 87 = .ok (.iadd, 1) := by decide +kernel
theorem d_MD_read_88 : decode c_MD_read 88 = .ok (.iaload, 1) := by decide +kernel
theorem d_MD_read_89 : decode c_MD_read 89 = .ok (.i2l, 1) := by decide +kernel
theorem d_MD_read_90 : decode c_MD_read 90 = .ok (.lor, 1) := by decide +kernel
theorem d_MD_read_91 : decode c_MD_read 91 = .ok (.lstore_n 3, 1) := by decide +kernel
theorem d_MD_read_92 : decode c_MD_read 92 = .ok (.iinc 5 (-1), 3) := by decide +kernel
theorem d_MD_read_95 : decode c_MD_read 95 = .ok (.goto (-32), 3) := by decide +kernel
theorem d_MD_read_98 : decode c_MD_read 98 = .ok (.lload_n 3, 1) := by decide +kernel
theorem d_MD_read_99 : decode c_MD_read 99 = .ok (.lreturn, 1) := by decide +kernel
abbrev c_MD_lose : ByteArray := prog_7_method_21_code
abbrev y_MD_lose : MethodName := ⟨"StripeFieldModel", "lose", "(I)V"⟩
theorem d_MD_lose_0 : decode c_MD_lose 0 = .ok (.aload_n 0, 1) := by decide +kernel
theorem d_MD_lose_1 : decode c_MD_lose 1 = .ok (.iload_n 1, 1) := by decide +kernel
theorem d_MD_lose_2 : decode c_MD_lose 2 = .ok (.ifCond .ge 7, 3) := by decide +kernel
theorem d_MD_lose_5 : decode c_MD_lose 5 = .ok (.iconst 1, 1) := by decide +kernel
theorem d_MD_lose_6 : decode c_MD_lose 6 = .ok (.goto 4, 3) := by decide +kernel
theorem d_MD_lose_9 : decode c_MD_lose 9 = .ok (.iconst 0, 1) := by decide +kernel
theorem d_MD_lose_10 : decode c_MD_lose 10 = .ok (.iconst 1, 1) := by decide +kernel
theorem d_MD_lose_11 : decode c_MD_lose 11 = .ok (.invokevirtual 100, 3) := by decide +kernel
theorem d_MD_lose_14 : decode c_MD_lose 14 = .ok (.ifCond .eq 4, 3) := by decide +kernel
theorem d_MD_lose_17 : decode c_MD_lose 17 = .ok (.return_, 1) := by decide +kernel
theorem d_MD_lose_18 : decode c_MD_lose 18 = .ok (.aload_n 0, 1) := by decide +kernel
theorem d_MD_lose_19 : decode c_MD_lose 19 = .ok (.iload_n 1, 1) := by decide +kernel
theorem d_MD_lose_20 : decode c_MD_lose 20 = .ok (.iconst 1, 1) := by decide +kernel
theorem d_MD_lose_21 : decode c_MD_lose 21 = .ok (.isub, 1) := by decide +kernel
theorem d_MD_lose_22 : decode c_MD_lose 22 = .ok (.putfield 35, 3) := by decide +kernel
theorem d_MD_lose_25 : decode c_MD_lose 25 = .ok (.return_, 1) := by decide +kernel
abbrev c_MD_off : ByteArray := prog_7_method_22_code
abbrev y_MD_off : MethodName := ⟨"StripeFieldModel", "off", "()V"⟩
theorem d_MD_off_0 : decode c_MD_off 0 = .ok (.aload_n 0, 1) := by decide +kernel
theorem d_MD_off_1 : decode c_MD_off 1 = .ok (.aload_n 0, 1) := by decide +kernel
theorem d_MD_off_2 : decode c_MD_off 2 = .ok (.getfield 31, 3) := by decide +kernel
theorem d_MD_off_5 : decode c_MD_off 5 = .ok (.ifCond .ne 7, 3) := by decide +kernel
theorem d_MD_off_8 : decode c_MD_off 8 = .ok (.iconst 1, 1) := by decide +kernel
theorem d_MD_off_9 : decode c_MD_off 9 = .ok (.goto 4, 3) := by decide +kernel
theorem d_MD_off_12 : decode c_MD_off 12 = .ok (.iconst 0, 1) := by decide +kernel
theorem d_MD_off_13 : decode c_MD_off 13 = .ok (.iconst 1, 1) := by decide +kernel
theorem d_MD_off_14 : decode c_MD_off 14 = .ok (.invokevirtual 100, 3) := by decide +kernel
theorem d_MD_off_17 : decode c_MD_off 17 = .ok (.ifCond .eq 4, 3) := by decide +kernel
theorem d_MD_off_20 : decode c_MD_off 20 = .ok (.return_, 1) := by decide +kernel
theorem d_MD_off_21 : decode c_MD_off 21 = .ok (.aload_n 0, 1) := by decide +kernel
theorem d_MD_off_22 : decode c_MD_off 22 = .ok (.iconst 0, 1) := by decide +kernel
theorem d_MD_off_23 : decode c_MD_off 23 = .ok (.putfield 31, 3) := by decide +kernel
theorem d_MD_off_26 : decode c_MD_off 26 = .ok (.aload_n 0, 1) := by decide +kernel
theorem d_MD_off_27 : decode c_MD_off 27 = .ok (.iconst (-1), 1) := by decide +kernel
theorem d_MD_off_28 : decode c_MD_off 28 = .ok (.putfield 35, 3) := by decide +kernel
theorem d_MD_off_31 : decode c_MD_off 31 = .ok (.return_, 1) := by decide +kernel
abbrev c_MD_open : ByteArray := prog_7_method_25_code
abbrev y_MD_open : MethodName := ⟨"StripeFieldModel", "open", "()Z"⟩
theorem d_MD_open_0 : decode c_MD_open 0 = .ok (.aload_n 0, 1) := by decide +kernel
theorem d_MD_open_1 : decode c_MD_open 1 = .ok (.aload_n 0, 1) := by decide +kernel
theorem d_MD_open_2 : decode c_MD_open 2 = .ok (.getfield 31, 3) := by decide +kernel
theorem d_MD_open_5 : decode c_MD_open 5 = .ok (.iconst 1, 1) := by decide +kernel
theorem d_MD_open_6 : decode c_MD_open 6 = .ok (.invokevirtual 100, 3) := by decide +kernel
theorem d_MD_open_9 : decode c_MD_open 9 = .ok (.ifCond .eq 5, 3) := by decide +kernel
theorem d_MD_open_12 : decode c_MD_open 12 = .ok (.iconst 0, 1) := by decide +kernel
theorem d_MD_open_13 : decode c_MD_open 13 = .ok (.ireturn, 1) := by decide +kernel
theorem d_MD_open_14 : decode c_MD_open 14 = .ok (.iconst 0, 1) := by decide +kernel
theorem d_MD_open_15 : decode c_MD_open 15 = .ok (.istore_n 1, 1) := by decide +kernel
theorem d_MD_open_16 : decode c_MD_open 16 = .ok (.iload_n 1, 1) := by decide +kernel
theorem d_MD_open_17 : decode c_MD_open 17 = .ok (.aload_n 0, 1) := by decide +kernel
theorem d_MD_open_18 : decode c_MD_open 18 = .ok (.getfield 58, 3) := by decide +kernel
theorem d_MD_open_21 : decode c_MD_open 21 = .ok (.if_icmp .ge 47, 3) := by decide +kernel
theorem d_MD_open_24 : decode c_MD_open 24 = .ok (.iconst 0, 1) := by decide +kernel
theorem d_MD_open_25 : decode c_MD_open 25 = .ok (.istore_n 2, 1) := by decide +kernel
theorem d_MD_open_26 : decode c_MD_open 26 = .ok (.iload_n 2, 1) := by decide +kernel
theorem d_MD_open_27 : decode c_MD_open 27 = .ok (.aload_n 0, 1) := by decide +kernel
theorem d_MD_open_28 : decode c_MD_open 28 = .ok (.getfield 55, 3) := by decide +kernel
theorem d_MD_open_31 : decode c_MD_open 31 = .ok (.aload_n 0, 1) := by decide +kernel
theorem d_MD_open_32 : decode c_MD_open 32 = .ok (.getfield 61, 3) := by decide +kernel
theorem d_MD_open_35 : decode c_MD_open 35 = .ok (.imul, 1) := by decide +kernel
theorem d_MD_open_36 : decode c_MD_open 36 = .ok (.if_icmp .ge 26, 3) := by decide +kernel
theorem d_MD_open_39 : decode c_MD_open 39 = .ok (.aload_n 0, 1) := by decide +kernel
theorem d_MD_open_40 : decode c_MD_open 40 = .ok (.getfield 28, 3) := by decide +kernel
theorem d_MD_open_43 : decode c_MD_open 43 = .ok (.bipush 16, 2) := by decide +kernel
theorem d_MD_open_45 : decode c_MD_open 45 = .ok (.iload_n 1, 1) := by decide +kernel
theorem d_MD_open_46 : decode c_MD_open 46 = .ok (.imul, 1) := by decide +kernel
theorem d_MD_open_47 : decode c_MD_open 47 = .ok (.iload_n 2, 1) := by decide +kernel
theorem d_MD_open_48 : decode c_MD_open 48 = .ok (.iadd, 1) := by decide +kernel
theorem d_MD_open_49 : decode c_MD_open 49 = .ok (.aload_n 0, 1) := by decide +kernel
theorem d_MD_open_50 : decode c_MD_open 50 = .ok (.iload_n 1, 1) := by decide +kernel
theorem d_MD_open_51 : decode c_MD_open 51 = .ok (.iload_n 2, 1) := by decide +kernel
theorem d_MD_open_52 : decode c_MD_open 52 = .ok (.invokevirtual 81, 3) := by decide +kernel
theorem d_MD_open_55 : decode c_MD_open 55 = .ok (.iastore, 1) := by decide +kernel
theorem d_MD_open_56 : decode c_MD_open 56 = .ok (.iinc 2 1, 3) := by decide +kernel
theorem d_MD_open_59 : decode c_MD_open 59 = .ok (.goto (-33), 3) := by decide +kernel
theorem d_MD_open_62 : decode c_MD_open 62 = .ok (.iinc 1 1, 3) := by decide +kernel
theorem d_MD_open_65 : decode c_MD_open 65 = .ok (.goto (-49), 3) := by decide +kernel
theorem d_MD_open_68 : decode c_MD_open 68 = .ok (.aload_n 0, 1) := by decide +kernel
theorem d_MD_open_69 : decode c_MD_open 69 = .ok (.iconst 1, 1) := by decide +kernel
theorem d_MD_open_70 : decode c_MD_open 70 = .ok (.putfield 31, 3) := by decide +kernel
theorem d_MD_open_73 : decode c_MD_open 73 = .ok (.aload_n 0, 1) := by decide +kernel
theorem d_MD_open_74 : decode c_MD_open 74 = .ok (.iconst 0, 1) := by decide +kernel
theorem d_MD_open_75 : decode c_MD_open 75 = .ok (.putfield 130, 3) := by decide +kernel
theorem d_MD_open_78 : decode c_MD_open 78 = .ok (.aload_n 0, 1) := by decide +kernel
theorem d_MD_open_79 : decode c_MD_open 79 = .ok (.invokevirtual 133, 3) := by decide +kernel
theorem d_MD_open_82 : decode c_MD_open 82 = .ok (.ifCond .ne 5, 3) := by decide +kernel
theorem d_MD_open_85 : decode c_MD_open 85 = .ok (.iconst 0, 1) := by decide +kernel
theorem d_MD_open_86 : decode c_MD_open 86 = .ok (.ireturn, 1) := by decide +kernel
theorem d_MD_open_87 : decode c_MD_open 87 = .ok (.aload_n 0, 1) := by decide +kernel
theorem d_MD_open_88 : decode c_MD_open 88 = .ok (.iconst 0, 1) := by decide +kernel
theorem d_MD_open_89 : decode c_MD_open 89 = .ok (.putfield 124, 3) := by decide +kernel
theorem d_MD_open_92 : decode c_MD_open 92 = .ok (.iconst 1, 1) := by decide +kernel
theorem d_MD_open_93 : decode c_MD_open 93 = .ok (.ireturn, 1) := by decide +kernel
abbrev c_MD_opens : ByteArray := prog_7_method_24_code
abbrev y_MD_opens : MethodName := ⟨"StripeFieldModel", "opens", "()Z"⟩
theorem d_MD_opens_0 : decode c_MD_opens 0 = .ok (.iconst 0, 1) := by decide +kernel
theorem d_MD_opens_1 : decode c_MD_opens 1 = .ok (.istore_n 1, 1) := by decide +kernel
theorem d_MD_opens_2 : decode c_MD_opens 2 = .ok (.iload_n 1, 1) := by decide +kernel
theorem d_MD_opens_3 : decode c_MD_opens 3 = .ok (.aload_n 0, 1) := by decide +kernel
theorem d_MD_opens_4 : decode c_MD_opens 4 = .ok (.getfield 52, 3) := by decide +kernel
theorem d_MD_opens_7 : decode c_MD_opens 7 = .ok (.if_icmp .ge 47, 3) := by decide +kernel
theorem d_MD_opens_10 : decode c_MD_opens 10 = .ok (.aload_n 0, 1) := by decide +kernel
theorem d_MD_opens_11 : decode c_MD_opens 11 = .ok (.iload_n 1, 1) := by decide +kernel
theorem d_MD_opens_12 : decode c_MD_opens 12 = .ok (.aload_n 0, 1) := by decide +kernel
theorem d_MD_opens_13 : decode c_MD_opens 13 = .ok (.getfield 58, 3) := by decide +kernel
theorem d_MD_opens_16 : decode c_MD_opens 16 = .ok (.invokevirtual 77, 3) := by decide +kernel
theorem d_MD_opens_19 : decode c_MD_opens 19 = .ok (.ifCond .eq 29, 3) := by decide +kernel
theorem d_MD_opens_22 : decode c_MD_opens 22 = .ok (.aload_n 0, 1) := by decide +kernel
theorem d_MD_opens_23 : decode c_MD_opens 23 = .ok (.getfield 20, 3) := by decide +kernel
theorem d_MD_opens_26 : decode c_MD_opens 26 = .ok (.iload_n 1, 1) := by decide +kernel
theorem d_MD_opens_27 : decode c_MD_opens 27 = .ok (.aload_n 0, 1) := by decide +kernel
theorem d_MD_opens_28 : decode c_MD_opens 28 = .ok (.getfield 58, 3) := by decide +kernel
theorem d_MD_opens_31 : decode c_MD_opens 31 = .ok (.invokestatic 67, 3) := by decide +kernel
theorem d_MD_opens_34 : decode c_MD_opens 34 = .ok (.iaload, 1) := by decide +kernel
theorem d_MD_opens_35 : decode c_MD_opens 35 = .ok (.ifCond .le 13, 3) := by decide +kernel
theorem d_MD_opens_38 : decode c_MD_opens 38 = .ok (.aload_n 0, 1) := by decide +kernel
theorem d_MD_opens_39 : decode c_MD_opens 39 = .ok (.iload_n 1, 1) := by decide +kernel
theorem d_MD_opens_40 : decode c_MD_opens 40 = .ok (.invokevirtual 127, 3) := by decide +kernel
theorem d_MD_opens_43 : decode c_MD_opens 43 = .ok (.ifCond .ne 5, 3) := by decide +kernel
theorem d_MD_opens_46 : decode c_MD_opens 46 = .ok (.iconst 0, 1) := by decide +kernel
theorem d_MD_opens_47 : decode c_MD_opens 47 = .ok (.ireturn, 1) := by decide +kernel
theorem d_MD_opens_48 : decode c_MD_opens 48 = .ok (.iinc 1 1, 3) := by decide +kernel
theorem d_MD_opens_51 : decode c_MD_opens 51 = .ok (.goto (-49), 3) := by decide +kernel
theorem d_MD_opens_54 : decode c_MD_opens 54 = .ok (.iconst 0, 1) := by decide +kernel
theorem d_MD_opens_55 : decode c_MD_opens 55 = .ok (.istore_n 1, 1) := by decide +kernel
theorem d_MD_opens_56 : decode c_MD_opens 56 = .ok (.iload_n 1, 1) := by decide +kernel
theorem d_MD_opens_57 : decode c_MD_opens 57 = .ok (.aload_n 0, 1) := by decide +kernel
theorem d_MD_opens_58 : decode c_MD_opens 58 = .ok (.getfield 58, 3) := by decide +kernel
theorem d_MD_opens_61 : decode c_MD_opens 61 = .ok (.if_icmp .ge 83, 3) := by decide +kernel
theorem d_MD_opens_64 : decode c_MD_opens 64 = .ok (.aload_n 0, 1) := by decide +kernel
theorem d_MD_opens_65 : decode c_MD_opens 65 = .ok (.getfield 55, 3) := by decide +kernel
theorem d_MD_opens_68 : decode c_MD_opens 68 = .ok (.aload_n 0, 1) := by decide +kernel
theorem d_MD_opens_69 : decode c_MD_opens 69 = .ok (.getfield 61, 3) := by decide +kernel
theorem d_MD_opens_72 : decode c_MD_opens 72 = .ok (.imul, 1) := by decide +kernel
theorem d_MD_opens_73 : decode c_MD_opens 73 = .ok (.istore_n 2, 1) := by decide +kernel
theorem d_MD_opens_74 : decode c_MD_opens 74 = .ok (.iload_n 2, 1) := by decide +kernel
theorem d_MD_opens_75 : decode c_MD_opens 75 = .ok (.aload_n 0, 1) := by decide +kernel
theorem d_MD_opens_76 : decode c_MD_opens 76 = .ok (.getfield 52, 3) := by decide +kernel
theorem d_MD_opens_79 : decode c_MD_opens 79 = .ok (.if_icmp .ge 59, 3) := by decide +kernel
theorem d_MD_opens_82 : decode c_MD_opens 82 = .ok (.aload_n 0, 1) := by decide +kernel
theorem d_MD_opens_83 : decode c_MD_opens 83 = .ok (.iload_n 1, 1) := by decide +kernel
theorem d_MD_opens_84 : decode c_MD_opens 84 = .ok (.iload_n 2, 1) := by decide +kernel
theorem d_MD_opens_85 : decode c_MD_opens 85 = .ok (.invokevirtual 71, 3) := by decide +kernel
theorem d_MD_opens_88 : decode c_MD_opens 88 = .ok (.istore_n 3, 1) := by decide +kernel
theorem d_MD_opens_89 : decode c_MD_opens 89 = .ok (.aload_n 0, 1) := by decide +kernel
theorem d_MD_opens_90 : decode c_MD_opens 90 = .ok (.iload_n 1, 1) := by decide +kernel
theorem d_MD_opens_91 : decode c_MD_opens 91 = .ok (.iload_n 3, 1) := by decide +kernel
theorem d_MD_opens_92 : decode c_MD_opens 92 = .ok (.invokevirtual 94, 3) := by decide +kernel
theorem d_MD_opens_95 : decode c_MD_opens 95 = .ok (.ifCond .ge 37, 3) := by decide +kernel
theorem d_MD_opens_98 : decode c_MD_opens 98 = .ok (.aload_n 0, 1) := by decide +kernel
theorem d_MD_opens_99 : decode c_MD_opens 99 = .ok (.iload_n 3, 1) := by decide +kernel
theorem d_MD_opens_100 : decode c_MD_opens 100 = .ok (.iload_n 1, 1) := by decide +kernel
theorem d_MD_opens_101 : decode c_MD_opens 101 = .ok (.invokevirtual 77, 3) := by decide +kernel
theorem d_MD_opens_104 : decode c_MD_opens 104 = .ok (.ifCond .eq 28, 3) := by decide +kernel
theorem d_MD_opens_107 : decode c_MD_opens 107 = .ok (.aload_n 0, 1) := by decide +kernel
theorem d_MD_opens_108 : decode c_MD_opens 108 = .ok (.getfield 20, 3) := by decide +kernel
theorem d_MD_opens_111 : decode c_MD_opens 111 = .ok (.iload_n 3, 1) := by decide +kernel
theorem d_MD_opens_112 : decode c_MD_opens 112 = .ok (.iload_n 1, 1) := by decide +kernel
theorem d_MD_opens_113 : decode c_MD_opens 113 = .ok (.invokestatic 67, 3) := by decide +kernel
theorem d_MD_opens_116 : decode c_MD_opens 116 = .ok (.iaload, 1) := by decide +kernel
theorem d_MD_opens_117 : decode c_MD_opens 117 = .ok (.ifCond .le 15, 3) := by decide +kernel
theorem d_MD_opens_120 : decode c_MD_opens 120 = .ok (.aload_n 0, 1) := by decide +kernel
theorem d_MD_opens_121 : decode c_MD_opens 121 = .ok (.iload_n 3, 1) := by decide +kernel
theorem d_MD_opens_122 : decode c_MD_opens 122 = .ok (.iload_n 1, 1) := by decide +kernel
theorem d_MD_opens_123 : decode c_MD_opens 123 = .ok (.iconst 0, 1) := by decide +kernel
theorem d_MD_opens_124 : decode c_MD_opens 124 = .ok (.invokevirtual 116, 3) := by decide +kernel
theorem d_MD_opens_127 : decode c_MD_opens 127 = .ok (.ifCond .ne 5, 3) := by decide +kernel
theorem d_MD_opens_130 : decode c_MD_opens 130 = .ok (.iconst 0, 1) := by decide +kernel
theorem d_MD_opens_131 : decode c_MD_opens 131 = .ok (.ireturn, 1) := by decide +kernel
theorem d_MD_opens_132 : decode c_MD_opens 132 = .ok (.iinc 2 1, 3) := by decide +kernel
theorem d_MD_opens_135 : decode c_MD_opens 135 = .ok (.goto (-61), 3) := by decide +kernel
theorem d_MD_opens_138 : decode c_MD_opens 138 = .ok (.iinc 1 1, 3) := by decide +kernel
theorem d_MD_opens_141 : decode c_MD_opens 141 = .ok (.goto (-85), 3) := by decide +kernel
theorem d_MD_opens_144 : decode c_MD_opens 144 = .ok (.iconst 1, 1) := by decide +kernel
theorem d_MD_opens_145 : decode c_MD_opens 145 = .ok (.ireturn, 1) := by decide +kernel
abbrev c_MD_unlogs : ByteArray := prog_7_method_23_code
abbrev y_MD_unlogs : MethodName := ⟨"StripeFieldModel", "unlogs", "(I)Z"⟩
theorem d_MD_unlogs_0 : decode c_MD_unlogs 0 = .ok (.aload_n 0, 1) := by decide +kernel
theorem d_MD_unlogs_1 : decode c_MD_unlogs 1 = .ok (.getfield 20, 3) := by decide +kernel
theorem d_MD_unlogs_4 : decode c_MD_unlogs 4 = .ok (.iload_n 1, 1) := by decide +kernel
theorem d_MD_unlogs_5 : decode c_MD_unlogs 5 = .ok (.aload_n 0, 1) := by decide +kernel
theorem d_MD_unlogs_6 : decode c_MD_unlogs 6 = .ok (.getfield 58, 3) := by decide +kernel
theorem d_MD_unlogs_9 : decode c_MD_unlogs 9 = .ok (.invokestatic 67, 3) := by decide +kernel
theorem d_MD_unlogs_12 : decode c_MD_unlogs 12 = .ok (.iaload, 1) := by decide +kernel
theorem d_MD_unlogs_13 : decode c_MD_unlogs 13 = .ok (.iconst 1, 1) := by decide +kernel
theorem d_MD_unlogs_14 : decode c_MD_unlogs 14 = .ok (.isub, 1) := by decide +kernel
theorem d_MD_unlogs_15 : decode c_MD_unlogs 15 = .ok (.istore_n 2, 1) := by decide +kernel
theorem d_MD_unlogs_16 : decode c_MD_unlogs 16 = .ok (.iload_n 2, 1) := by decide +kernel
theorem d_MD_unlogs_17 : decode c_MD_unlogs 17 = .ok (.bipush 8, 2) := by decide +kernel
theorem d_MD_unlogs_19 : decode c_MD_unlogs 19 = .ok (.idiv, 1) := by decide +kernel
theorem d_MD_unlogs_20 : decode c_MD_unlogs 20 = .ok (.istore_n 3, 1) := by decide +kernel
theorem d_MD_unlogs_21 : decode c_MD_unlogs 21 = .ok (.iload_n 3, 1) := by decide +kernel
theorem d_MD_unlogs_22 : decode c_MD_unlogs 22 = .ok (.aload_n 0, 1) := by decide +kernel
theorem d_MD_unlogs_23 : decode c_MD_unlogs 23 = .ok (.getfield 61, 3) := by decide +kernel
theorem d_MD_unlogs_26 : decode c_MD_unlogs 26 = .ok (.idiv, 1) := by decide +kernel
theorem d_MD_unlogs_27 : decode c_MD_unlogs 27 = .ok (.istore 4, 2) := by decide +kernel
theorem d_MD_unlogs_29 : decode c_MD_unlogs 29 = .ok (.aload_n 0, 1) := by decide +kernel
theorem d_MD_unlogs_30 : decode c_MD_unlogs 30 = .ok (.getfield 55, 3) := by decide +kernel
theorem d_MD_unlogs_33 : decode c_MD_unlogs 33 = .ok (.iload_n 3, 1) := by decide +kernel
theorem d_MD_unlogs_34 : decode c_MD_unlogs 34 = .ok (.aload_n 0, 1) := by decide +kernel
theorem d_MD_unlogs_35 : decode c_MD_unlogs 35 = .ok (.getfield 61, 3) := by decide +kernel
theorem d_MD_unlogs_38 : decode c_MD_unlogs 38 = .ok (.irem, 1) := by decide +kernel
theorem d_MD_unlogs_39 : decode c_MD_unlogs 39 = .ok (.imul, 1) := by decide +kernel
theorem d_MD_unlogs_40 : decode c_MD_unlogs 40 = .ok (.iload_n 2, 1) := by decide +kernel
theorem d_MD_unlogs_41 : decode c_MD_unlogs 41 = .ok (.bipush 8, 2) := by decide +kernel
theorem d_MD_unlogs_43 : decode c_MD_unlogs 43 = .ok (.irem, 1) := by decide +kernel
theorem d_MD_unlogs_44 : decode c_MD_unlogs 44 = .ok (.iadd, 1) := by decide +kernel
theorem d_MD_unlogs_45 : decode c_MD_unlogs 45 = .ok (.istore 5, 2) := by decide +kernel
theorem d_MD_unlogs_47 : decode c_MD_unlogs 47 = .ok (.aload_n 0, 1) := by decide +kernel
theorem d_MD_unlogs_48 : decode c_MD_unlogs 48 = .ok (.getfield 55, 3) := by decide +kernel
theorem d_MD_unlogs_51 : decode c_MD_unlogs 51 = .ok (.iload_n 3, 1) := by decide +kernel
theorem d_MD_unlogs_52 : decode c_MD_unlogs 52 = .ok (.aload_n 0, 1) := by decide +kernel
theorem d_MD_unlogs_53 : decode c_MD_unlogs 53 = .ok (.getfield 61, 3) := by decide +kernel
theorem d_MD_unlogs_56 : decode c_MD_unlogs 56 = .ok (.irem, 1) := by decide +kernel
theorem d_MD_unlogs_57 : decode c_MD_unlogs 57 = .ok (.imul, 1) := by decide +kernel
theorem d_MD_unlogs_58 : decode c_MD_unlogs 58 = .ok (.aload_n 0, 1) := by decide +kernel
theorem d_MD_unlogs_59 : decode c_MD_unlogs 59 = .ok (.getfield 55, 3) := by decide +kernel
theorem d_MD_unlogs_62 : decode c_MD_unlogs 62 = .ok (.iadd, 1) := by decide +kernel
theorem d_MD_unlogs_63 : decode c_MD_unlogs 63 = .ok (.iconst 1, 1) := by decide +kernel
theorem d_MD_unlogs_64 : decode c_MD_unlogs 64 = .ok (.isub, 1) := by decide +kernel
theorem d_MD_unlogs_65 : decode c_MD_unlogs 65 = .ok (.istore 6, 2) := by decide +kernel
theorem d_MD_unlogs_67 : decode c_MD_unlogs 67 = .ok (.aload_n 0, 1) := by decide +kernel
theorem d_MD_unlogs_68 : decode c_MD_unlogs 68 = .ok (.iload 4, 2) := by decide +kernel
theorem d_MD_unlogs_70 : decode c_MD_unlogs 70 = .ok (.iload 5, 2) := by decide +kernel
theorem d_MD_unlogs_72 : decode c_MD_unlogs 72 = .ok (.invokevirtual 84, 3) := by decide +kernel
theorem d_MD_unlogs_75 : decode c_MD_unlogs 75 = .ok (.istore 7, 2) := by decide +kernel
theorem d_MD_unlogs_77 : decode c_MD_unlogs 77 = .ok (.aload_n 0, 1) := by decide +kernel
theorem d_MD_unlogs_78 : decode c_MD_unlogs 78 = .ok (.iload 4, 2) := by decide +kernel
theorem d_MD_unlogs_80 : decode c_MD_unlogs 80 = .ok (.iload 6, 2) := by decide +kernel
theorem d_MD_unlogs_82 : decode c_MD_unlogs 82 = .ok (.invokevirtual 84, 3) := by decide +kernel
theorem d_MD_unlogs_85 : decode c_MD_unlogs 85 = .ok (.iload_n 1, 1) := by decide +kernel
theorem d_MD_unlogs_86 : decode c_MD_unlogs 86 = .ok (.if_icmp .ne 23, 3) := by decide +kernel
theorem d_MD_unlogs_89 : decode c_MD_unlogs 89 = .ok (.iload 7, 2) := by decide +kernel
theorem d_MD_unlogs_91 : decode c_MD_unlogs 91 = .ok (.ifCond .lt 18, 3) := by decide +kernel
theorem d_MD_unlogs_94 : decode c_MD_unlogs 94 = .ok (.aload_n 0, 1) := by decide +kernel
theorem d_MD_unlogs_95 : decode c_MD_unlogs 95 = .ok (.iload 7, 2) := by decide +kernel
theorem d_MD_unlogs_97 : decode c_MD_unlogs 97 = .ok (.iload 4, 2) := by decide +kernel
theorem d_MD_unlogs_99 : decode c_MD_unlogs 99 = .ok (.invokevirtual 77, 3) := by decide +kernel
theorem d_MD_unlogs_102 : decode c_MD_unlogs 102 = .ok (.ifCond .eq 7, 3) := by decide +kernel
theorem d_MD_unlogs_105 : decode c_MD_unlogs 105 = .ok (.iconst 1, 1) := by decide +kernel
theorem d_MD_unlogs_106 : decode c_MD_unlogs 106 = .ok (.goto 4, 3) := by decide +kernel
theorem d_MD_unlogs_109 : decode c_MD_unlogs 109 = .ok (.iconst 0, 1) := by decide +kernel
theorem d_MD_unlogs_110 : decode c_MD_unlogs 110 = .ok (.istore 8, 2) := by decide +kernel
theorem d_MD_unlogs_112 : decode c_MD_unlogs 112 = .ok (.iload 8, 2) := by decide +kernel
theorem d_MD_unlogs_114 : decode c_MD_unlogs 114 = .ok (.ifCond .eq 19, 3) := by decide +kernel
theorem d_MD_unlogs_117 : decode c_MD_unlogs 117 = .ok (.aload_n 0, 1) := by decide +kernel
theorem d_MD_unlogs_118 : decode c_MD_unlogs 118 = .ok (.iload_n 1, 1) := by decide +kernel
theorem d_MD_unlogs_119 : decode c_MD_unlogs 119 = .ok (.iload 4, 2) := by decide +kernel
theorem d_MD_unlogs_121 : decode c_MD_unlogs 121 = .ok (.iload 6, 2) := by decide +kernel
theorem d_MD_unlogs_123 : decode c_MD_unlogs 123 = .ok (.iconst 1, 1) := by decide +kernel
theorem d_MD_unlogs_124 : decode c_MD_unlogs 124 = .ok (.iadd, 1) := by decide +kernel
theorem d_MD_unlogs_125 : decode c_MD_unlogs 125 = .ok (.invokevirtual 116, 3) := by decide +kernel
theorem d_MD_unlogs_128 : decode c_MD_unlogs 128 = .ok (.ifCond .ne 5, 3) := by decide +kernel
theorem d_MD_unlogs_131 : decode c_MD_unlogs 131 = .ok (.iconst 0, 1) := by decide +kernel
theorem d_MD_unlogs_132 : decode c_MD_unlogs 132 = .ok (.ireturn, 1) := by decide +kernel
theorem d_MD_unlogs_133 : decode c_MD_unlogs 133 = .ok (.iload 8, 2) := by decide +kernel
theorem d_MD_unlogs_135 : decode c_MD_unlogs 135 = .ok (.ifCond .eq 8, 3) := by decide +kernel
theorem d_MD_unlogs_138 : decode c_MD_unlogs 138 = .ok (.aload_n 0, 1) := by decide +kernel
theorem d_MD_unlogs_139 : decode c_MD_unlogs 139 = .ok (.iconst 0, 1) := by decide +kernel
theorem d_MD_unlogs_140 : decode c_MD_unlogs 140 = .ok (.putfield 124, 3) := by decide +kernel
theorem d_MD_unlogs_143 : decode c_MD_unlogs 143 = .ok (.aload_n 0, 1) := by decide +kernel
theorem d_MD_unlogs_144 : decode c_MD_unlogs 144 = .ok (.iload_n 1, 1) := by decide +kernel
theorem d_MD_unlogs_145 : decode c_MD_unlogs 145 = .ok (.aload_n 0, 1) := by decide +kernel
theorem d_MD_unlogs_146 : decode c_MD_unlogs 146 = .ok (.getfield 58, 3) := by decide +kernel
theorem d_MD_unlogs_149 : decode c_MD_unlogs 149 = .ok (.iconst 0, 1) := by decide +kernel
theorem d_MD_unlogs_150 : decode c_MD_unlogs 150 = .ok (.invokevirtual 116, 3) := by decide +kernel
theorem d_MD_unlogs_153 : decode c_MD_unlogs 153 = .ok (.ireturn, 1) := by decide +kernel
abbrev c_MD_holder : ByteArray := prog_7_method_13_code
abbrev y_MD_holder : MethodName := ⟨"StripeFieldModel", "holder", "(II)I"⟩
theorem d_MD_holder_0 : decode c_MD_holder 0 = .ok (.iconst 0, 1) := by decide +kernel
theorem d_MD_holder_1 : decode c_MD_holder 1 = .ok (.istore_n 3, 1) := by decide +kernel
theorem d_MD_holder_2 : decode c_MD_holder 2 = .ok (.iload_n 3, 1) := by decide +kernel
theorem d_MD_holder_3 : decode c_MD_holder 3 = .ok (.aload_n 0, 1) := by decide +kernel
theorem d_MD_holder_4 : decode c_MD_holder 4 = .ok (.getfield 55, 3) := by decide +kernel
theorem d_MD_holder_7 : decode c_MD_holder 7 = .ok (.aload_n 0, 1) := by decide +kernel
theorem d_MD_holder_8 : decode c_MD_holder 8 = .ok (.getfield 61, 3) := by decide +kernel
theorem d_MD_holder_11 : decode c_MD_holder 11 = .ok (.imul, 1) := by decide +kernel
theorem d_MD_holder_12 : decode c_MD_holder 12 = .ok (.if_icmp .ge 21, 3) := by decide +kernel
theorem d_MD_holder_15 : decode c_MD_holder 15 = .ok (.aload_n 0, 1) := by decide +kernel
theorem d_MD_holder_16 : decode c_MD_holder 16 = .ok (.iload_n 1, 1) := by decide +kernel
theorem d_MD_holder_17 : decode c_MD_holder 17 = .ok (.iload_n 3, 1) := by decide +kernel
theorem d_MD_holder_18 : decode c_MD_holder 18 = .ok (.invokevirtual 84, 3) := by decide +kernel
theorem d_MD_holder_21 : decode c_MD_holder 21 = .ok (.iload_n 2, 1) := by decide +kernel
theorem d_MD_holder_22 : decode c_MD_holder 22 = .ok (.if_icmp .ne 5, 3) := by decide +kernel
theorem d_MD_holder_25 : decode c_MD_holder 25 = .ok (.iload_n 3, 1) := by decide +kernel
theorem d_MD_holder_26 : decode c_MD_holder 26 = .ok (.ireturn, 1) := by decide +kernel
theorem d_MD_holder_27 : decode c_MD_holder 27 = .ok (.iinc 3 1, 3) := by decide +kernel
theorem d_MD_holder_30 : decode c_MD_holder 30 = .ok (.goto (-28), 3) := by decide +kernel
theorem d_MD_holder_33 : decode c_MD_holder 33 = .ok (.iconst (-1), 1) := by decide +kernel
theorem d_MD_holder_34 : decode c_MD_holder 34 = .ok (.ireturn, 1) := by decide +kernel
abbrev c_MD_fail : ByteArray := prog_7_method_26_code
abbrev y_MD_fail : MethodName := ⟨"StripeFieldModel", "fail", "(I)Z"⟩
theorem d_MD_fail_0 : decode c_MD_fail 0 = .ok (.aload_n 0, 1) := by decide +kernel
theorem d_MD_fail_1 : decode c_MD_fail 1 = .ok (.iload_n 1, 1) := by decide +kernel
theorem d_MD_fail_2 : decode c_MD_fail 2 = .ok (.ifCond .lt 11, 3) := by decide +kernel
theorem d_MD_fail_5 : decode c_MD_fail 5 = .ok (.iload_n 1, 1) := by decide +kernel
theorem d_MD_fail_6 : decode c_MD_fail 6 = .ok (.aload_n 0, 1) := by decide +kernel
theorem d_MD_fail_7 : decode c_MD_fail 7 = .ok (.getfield 52, 3) := by decide +kernel
theorem d_MD_fail_10 : decode c_MD_fail 10 = .ok (.if_icmp .lt 7, 3) := by decide +kernel
theorem d_MD_fail_13 : decode c_MD_fail 13 = .ok (.iconst 1, 1) := by decide +kernel
theorem d_MD_fail_14 : decode c_MD_fail 14 = .ok (.goto 4, 3) := by decide +kernel
theorem d_MD_fail_17 : decode c_MD_fail 17 = .ok (.iconst 0, 1) := by decide +kernel
theorem d_MD_fail_18 : decode c_MD_fail 18 = .ok (.iconst 1, 1) := by decide +kernel
theorem d_MD_fail_19 : decode c_MD_fail 19 = .ok (.invokevirtual 100, 3) := by decide +kernel
theorem d_MD_fail_22 : decode c_MD_fail 22 = .ok (.ifCond .ne 20, 3) := by decide +kernel
theorem d_MD_fail_25 : decode c_MD_fail 25 = .ok (.aload_n 0, 1) := by decide +kernel
theorem d_MD_fail_26 : decode c_MD_fail 26 = .ok (.getfield 13, 3) := by decide +kernel
theorem d_MD_fail_29 : decode c_MD_fail 29 = .ok (.iload_n 1, 1) := by decide +kernel
theorem d_MD_fail_30 : decode c_MD_fail 30 = .ok (.baload, 1) := by decide +kernel
theorem d_MD_fail_31 : decode c_MD_fail 31 = .ok (.ifCond .eq 11, 3) := by decide +kernel
theorem d_MD_fail_34 : decode c_MD_fail 34 = .ok (.aload_n 0, 1) := by decide +kernel
theorem d_MD_fail_35 : decode c_MD_fail 35 = .ok (.iload_n 1, 1) := by decide +kernel
theorem d_MD_fail_36 : decode c_MD_fail 36 = .ok (.invokevirtual 137, 3) := by decide +kernel
theorem d_MD_fail_39 : decode c_MD_fail 39 = .ok (.ifCond .eq 5, 3) := by decide +kernel
theorem d_MD_fail_42 : decode c_MD_fail 42 = .ok (.iconst 0, 1) := by decide +kernel
theorem d_MD_fail_43 : decode c_MD_fail 43 = .ok (.ireturn, 1) := by decide +kernel
theorem d_MD_fail_44 : decode c_MD_fail 44 = .ok (.aload_n 0, 1) := by decide +kernel
theorem d_MD_fail_45 : decode c_MD_fail 45 = .ok (.getfield 46, 3) := by decide +kernel
theorem d_MD_fail_48 : decode c_MD_fail 48 = .ok (.aload_n 0, 1) := by decide +kernel
theorem d_MD_fail_49 : decode c_MD_fail 49 = .ok (.getfield 55, 3) := by decide +kernel
theorem d_MD_fail_52 : decode c_MD_fail 52 = .ok (.iconst 1, 1) := by decide +kernel
theorem d_MD_fail_53 : decode c_MD_fail 53 = .ok (.isub, 1) := by decide +kernel
theorem d_MD_fail_54 : decode c_MD_fail 54 = .ok (.idiv, 1) := by decide +kernel
theorem d_MD_fail_55 : decode c_MD_fail 55 = .ok (.istore_n 2, 1) := by decide +kernel
theorem d_MD_fail_56 : decode c_MD_fail 56 = .ok (.aload_n 0, 1) := by decide +kernel
theorem d_MD_fail_57 : decode c_MD_fail 57 = .ok (.getfield 31, 3) := by decide +kernel
theorem d_MD_fail_60 : decode c_MD_fail 60 = .ok (.ifCond .ne 51, 3) := by decide +kernel
theorem d_MD_fail_63 : decode c_MD_fail 63 = .ok (.aload_n 0, 1) := by decide +kernel
theorem d_MD_fail_64 : decode c_MD_fail 64 = .ok (.getfield 124, 3) := by decide +kernel
theorem d_MD_fail_67 : decode c_MD_fail 67 = .ok (.ifCond .eq 44, 3) := by decide +kernel
theorem d_MD_fail_70 : decode c_MD_fail 70 = .ok (.aload_n 0, 1) := by decide +kernel
theorem d_MD_fail_71 : decode c_MD_fail 71 = .ok (.iload_n 2, 1) := by decide +kernel
theorem d_MD_fail_72 : decode c_MD_fail 72 = .ok (.aload_n 0, 1) := by decide +kernel
theorem d_MD_fail_73 : decode c_MD_fail 73 = .ok (.getfield 61, 3) := by decide +kernel
theorem d_MD_fail_76 : decode c_MD_fail 76 = .ok (.idiv, 1) := by decide +kernel
theorem d_MD_fail_77 : decode c_MD_fail 77 = .ok (.aload_n 0, 1) := by decide +kernel
theorem d_MD_fail_78 : decode c_MD_fail 78 = .ok (.getfield 55, 3) := by decide +kernel
theorem d_MD_fail_81 : decode c_MD_fail 81 = .ok (.iload_n 2, 1) := by decide +kernel
theorem d_MD_fail_82 : decode c_MD_fail 82 = .ok (.aload_n 0, 1) := by decide +kernel
theorem d_MD_fail_83 : decode c_MD_fail 83 = .ok (.getfield 61, 3) := by decide +kernel
theorem d_MD_fail_86 : decode c_MD_fail 86 = .ok (.irem, 1) := by decide +kernel
theorem d_MD_fail_87 : decode c_MD_fail 87 = .ok (.imul, 1) := by decide +kernel
theorem d_MD_fail_88 : decode c_MD_fail 88 = .ok (.aload_n 0, 1) := by decide +kernel
theorem d_MD_fail_89 : decode c_MD_fail 89 = .ok (.getfield 46, 3) := by decide +kernel
theorem d_MD_fail_92 : decode c_MD_fail 92 = .ok (.aload_n 0, 1) := by decide +kernel
theorem d_MD_fail_93 : decode c_MD_fail 93 = .ok (.getfield 55, 3) := by decide +kernel
theorem d_MD_fail_96 : decode c_MD_fail 96 = .ok (.iconst 1, 1) := by decide +kernel
theorem d_MD_fail_97 : decode c_MD_fail 97 = .ok (.isub, 1) := by decide +kernel
theorem d_MD_fail_98 : decode c_MD_fail 98 = .ok (.irem, 1) := by decide +kernel
theorem d_MD_fail_99 : decode c_MD_fail 99 = .ok (.iadd, 1) := by decide +kernel
theorem d_MD_fail_100 : decode c_MD_fail 100 = .ok (.invokevirtual 81, 3) := by decide +kernel
theorem d_MD_fail_103 : decode c_MD_fail 103 = .ok (.iload_n 1, 1) := by decide +kernel
theorem d_MD_fail_104 : decode c_MD_fail 104 = .ok (.if_icmp .ne 7, 3) := by decide +kernel
theorem d_MD_fail_107 : decode c_MD_fail 107 = .ok (.iconst 1, 1) := by decide +kernel
theorem d_MD_fail_108 : decode c_MD_fail 108 = .ok (.goto 4, 3) := by decide +kernel
theorem d_MD_fail_111 : decode c_MD_fail 111 = .ok (.iconst 0, 1) := by decide +kernel
theorem d_MD_fail_112 : decode c_MD_fail 112 = .ok (.istore_n 3, 1) := by decide +kernel
theorem d_MD_fail_113 : decode c_MD_fail 113 = .ok (.aload_n 0, 1) := by decide +kernel
theorem d_MD_fail_114 : decode c_MD_fail 114 = .ok (.getfield 13, 3) := by decide +kernel
theorem d_MD_fail_117 : decode c_MD_fail 117 = .ok (.iload_n 1, 1) := by decide +kernel
theorem d_MD_fail_118 : decode c_MD_fail 118 = .ok (.iconst 0, 1) := by decide +kernel
theorem d_MD_fail_119 : decode c_MD_fail 119 = .ok (.bastore, 1) := by decide +kernel
theorem d_MD_fail_120 : decode c_MD_fail 120 = .ok (.iconst 0, 1) := by decide +kernel
theorem d_MD_fail_121 : decode c_MD_fail 121 = .ok (.istore 4, 2) := by decide +kernel
theorem d_MD_fail_123 : decode c_MD_fail 123 = .ok (.iload 4, 2) := by decide +kernel
theorem d_MD_fail_125 : decode c_MD_fail 125 = .ok (.bipush 16, 2) := by decide +kernel
theorem d_MD_fail_127 : decode c_MD_fail 127 = .ok (.aload_n 0, 1) := by decide +kernel
theorem d_MD_fail_128 : decode c_MD_fail 128 = .ok (.getfield 58, 3) := by decide +kernel
theorem d_MD_fail_131 : decode c_MD_fail 131 = .ok (.imul, 1) := by decide +kernel
theorem d_MD_fail_132 : decode c_MD_fail 132 = .ok (.if_icmp .ge 52, 3) := by decide +kernel
theorem d_MD_fail_135 : decode c_MD_fail 135 = .ok (.aload_n 0, 1) := by decide +kernel
theorem d_MD_fail_136 : decode c_MD_fail 136 = .ok (.getfield 31, 3) := by decide +kernel
theorem d_MD_fail_139 : decode c_MD_fail 139 = .ok (.ifCond .eq 45, 3) := by decide +kernel
theorem d_MD_fail_142 : decode c_MD_fail 142 = .ok (.iload 4, 2) := by decide +kernel
theorem d_MD_fail_144 : decode c_MD_fail 144 = .ok (.bipush 16, 2) := by decide +kernel
theorem d_MD_fail_146 : decode c_MD_fail 146 = .ok (.irem, 1) := by decide +kernel
theorem d_MD_fail_147 : decode c_MD_fail 147 = .ok (.aload_n 0, 1) := by decide +kernel
theorem d_MD_fail_148 : decode c_MD_fail 148 = .ok (.getfield 55, 3) := by decide +kernel
theorem d_MD_fail_151 : decode c_MD_fail 151 = .ok (.aload_n 0, 1) := by decide +kernel
theorem d_MD_fail_152 : decode c_MD_fail 152 = .ok (.getfield 61, 3) := by decide +kernel
theorem d_MD_fail_155 : decode c_MD_fail 155 = .ok (.imul, 1) := by decide +kernel
theorem d_MD_fail_156 : decode c_MD_fail 156 = .ok (.if_icmp .ge 22, 3) := by decide +kernel
theorem d_MD_fail_159 : decode c_MD_fail 159 = .ok (.aload_n 0, 1) := by decide +kernel
theorem d_MD_fail_160 : decode c_MD_fail 160 = .ok (.getfield 28, 3) := by decide +kernel
theorem d_MD_fail_163 : decode c_MD_fail 163 = .ok (.iload 4, 2) := by decide +kernel
theorem d_MD_fail_165 : decode c_MD_fail 165 = .ok (.iaload, 1) := by decide +kernel
theorem d_MD_fail_166 : decode c_MD_fail 166 = .ok (.iload_n 1, 1) := by decide +kernel
theorem d_MD_fail_167 : decode c_MD_fail 167 = .ok (.if_icmp .ne 11, 3) := by decide +kernel
theorem d_MD_fail_170 : decode c_MD_fail 170 = .ok (.aload_n 0, 1) := by decide +kernel
theorem d_MD_fail_171 : decode c_MD_fail 171 = .ok (.getfield 28, 3) := by decide +kernel
theorem d_MD_fail_174 : decode c_MD_fail 174 = .ok (.iload 4, 2) := by decide +kernel
theorem d_MD_fail_176 : decode c_MD_fail 176 = .ok (.iconst (-1), 1) := by decide +kernel
theorem d_MD_fail_177 : decode c_MD_fail 177 = .ok (.iastore, 1) := by decide +kernel
theorem d_MD_fail_178 : decode c_MD_fail 178 = .ok (.iinc 4 1, 3) := by decide +kernel
theorem d_MD_fail_181 : decode c_MD_fail 181 = .ok (.goto (-58), 3) := by decide +kernel
theorem d_MD_fail_184 : decode c_MD_fail 184 = .ok (.iload_n 3, 1) := by decide +kernel
theorem d_MD_fail_185 : decode c_MD_fail 185 = .ok (.ifCond .ne 5, 3) := by decide +kernel
theorem d_MD_fail_188 : decode c_MD_fail 188 = .ok (.iconst 1, 1) := by decide +kernel
theorem d_MD_fail_189 : decode c_MD_fail 189 = .ok (.ireturn, 1) := by decide +kernel
theorem d_MD_fail_190 : decode c_MD_fail 190 = .ok (.iconst 0, 1) := by decide +kernel
theorem d_MD_fail_191 : decode c_MD_fail 191 = .ok (.istore 4, 2) := by decide +kernel
theorem d_MD_fail_193 : decode c_MD_fail 193 = .ok (.iload 4, 2) := by decide +kernel
theorem d_MD_fail_195 : decode c_MD_fail 195 = .ok (.bipush 64, 2) := by decide +kernel
theorem d_MD_fail_197 : decode c_MD_fail 197 = .ok (.if_icmp .ge 31, 3) := by decide +kernel
theorem d_MD_fail_200 : decode c_MD_fail 200 = .ok (.aload_n 0, 1) := by decide +kernel
theorem d_MD_fail_201 : decode c_MD_fail 201 = .ok (.getfield 43, 3) := by decide +kernel
theorem d_MD_fail_204 : decode c_MD_fail 204 = .ok (.bipush 64, 2) := by decide +kernel
theorem d_MD_fail_206 : decode c_MD_fail 206 = .ok (.aload_n 0, 1) := by decide +kernel
theorem d_MD_fail_207 : decode c_MD_fail 207 = .ok (.getfield 46, 3) := by decide +kernel
theorem d_MD_fail_210 : decode c_MD_fail 210 = .ok (.imul, 1) := by decide +kernel
theorem d_MD_fail_211 : decode c_MD_fail 211 = .ok (.iload 4, 2) := by decide +kernel
theorem d_MD_fail_213 : decode c_MD_fail 213 = .ok (.iadd, 1) := by decide +kernel
theorem d_MD_fail_214 : decode c_MD_fail 214 = .ok (.aload_n 0, 1) := by decide +kernel
theorem d_MD_fail_215 : decode c_MD_fail 215 = .ok (.getfield 49, 3) := by decide +kernel
theorem d_MD_fail_218 : decode c_MD_fail 218 = .ok (.iload 4, 2) := by decide +kernel
theorem d_MD_fail_220 : decode c_MD_fail 220 = .ok (.iaload, 1) := by decide +kernel
theorem d_MD_fail_221 : decode c_MD_fail 221 = .ok (.iastore, 1) := by decide +kernel
theorem d_MD_fail_222 : decode c_MD_fail 222 = .ok (.iinc 4 1, 3) := by decide +kernel
theorem d_MD_fail_225 : decode c_MD_fail 225 = .ok (.goto (-32), 3) := by decide +kernel
theorem d_MD_fail_228 : decode c_MD_fail 228 = .ok (.aload_n 0, 1) := by decide +kernel
theorem d_MD_fail_229 : decode c_MD_fail 229 = .ok (.iconst 0, 1) := by decide +kernel
theorem d_MD_fail_230 : decode c_MD_fail 230 = .ok (.putfield 124, 3) := by decide +kernel
theorem d_MD_fail_233 : decode c_MD_fail 233 = .ok (.iconst 1, 1) := by decide +kernel
theorem d_MD_fail_234 : decode c_MD_fail 234 = .ok (.ireturn, 1) := by decide +kernel
abbrev c_MD_isNeeded : ByteArray := prog_7_method_12_code
abbrev y_MD_isNeeded : MethodName := ⟨"StripeFieldModel", "isNeeded", "(I)Z"⟩
theorem d_MD_isNeeded_0 : decode c_MD_isNeeded 0 = .ok (.iconst 0, 1) := by decide +kernel
theorem d_MD_isNeeded_1 : decode c_MD_isNeeded 1 = .ok (.istore_n 2, 1) := by decide +kernel
theorem d_MD_isNeeded_2 : decode c_MD_isNeeded 2 = .ok (.iload_n 2, 1) := by decide +kernel
theorem d_MD_isNeeded_3 : decode c_MD_isNeeded 3 = .ok (.aload_n 0, 1) := by decide +kernel
theorem d_MD_isNeeded_4 : decode c_MD_isNeeded 4 = .ok (.getfield 58, 3) := by decide +kernel
theorem d_MD_isNeeded_7 : decode c_MD_isNeeded 7 = .ok (.if_icmp .ge 47, 3) := by decide +kernel
theorem d_MD_isNeeded_10 : decode c_MD_isNeeded 10 = .ok (.iconst 0, 1) := by decide +kernel
theorem d_MD_isNeeded_11 : decode c_MD_isNeeded 11 = .ok (.istore_n 3, 1) := by decide +kernel
theorem d_MD_isNeeded_12 : decode c_MD_isNeeded 12 = .ok (.iload_n 3, 1) := by decide +kernel
theorem d_MD_isNeeded_13 : decode c_MD_isNeeded 13 = .ok (.aload_n 0, 1) := by decide +kernel
theorem d_MD_isNeeded_14 : decode c_MD_isNeeded 14 = .ok (.getfield 55, 3) := by decide +kernel
theorem d_MD_isNeeded_17 : decode c_MD_isNeeded 17 = .ok (.aload_n 0, 1) := by decide +kernel
theorem d_MD_isNeeded_18 : decode c_MD_isNeeded 18 = .ok (.getfield 61, 3) := by decide +kernel
theorem d_MD_isNeeded_21 : decode c_MD_isNeeded 21 = .ok (.imul, 1) := by decide +kernel
theorem d_MD_isNeeded_22 : decode c_MD_isNeeded 22 = .ok (.if_icmp .ge 26, 3) := by decide +kernel
theorem d_MD_isNeeded_25 : decode c_MD_isNeeded 25 = .ok (.aload_n 0, 1) := by decide +kernel
theorem d_MD_isNeeded_26 : decode c_MD_isNeeded 26 = .ok (.iload_n 2, 1) := by decide +kernel
theorem d_MD_isNeeded_27 : decode c_MD_isNeeded 27 = .ok (.iload_n 3, 1) := by decide +kernel
theorem d_MD_isNeeded_28 : decode c_MD_isNeeded 28 = .ok (.iload_n 1, 1) := by decide +kernel
theorem d_MD_isNeeded_29 : decode c_MD_isNeeded 29 = .ok (.invokevirtual 90, 3) := by decide +kernel
theorem d_MD_isNeeded_32 : decode c_MD_isNeeded 32 = .ok (.iconst 1, 1) := by decide +kernel
theorem d_MD_isNeeded_33 : decode c_MD_isNeeded 33 = .ok (.if_icmp .le 5, 3) := by decide +kernel
theorem d_MD_isNeeded_36 : decode c_MD_isNeeded 36 = .ok (.iconst 1, 1) := by decide +kernel
theorem d_MD_isNeeded_37 : decode c_MD_isNeeded 37 = .ok (.ireturn, 1) := by decide +kernel
theorem d_MD_isNeeded_38 : decode c_MD_isNeeded 38 = .ok (.iload_n 3, 1) := by decide +kernel
theorem d_MD_isNeeded_39 : decode c_MD_isNeeded 39 = .ok (.aload_n 0, 1) := by decide +kernel
theorem d_MD_isNeeded_40 : decode c_MD_isNeeded 40 = .ok (.getfield 55, 3) := by decide +kernel
theorem d_MD_isNeeded_43 : decode c_MD_isNeeded 43 = .ok (.iadd, 1) := by decide +kernel
theorem d_MD_isNeeded_44 : decode c_MD_isNeeded 44 = .ok (.istore_n 3, 1) := by decide +kernel
theorem d_MD_isNeeded_45 : decode c_MD_isNeeded 45 = .ok (.goto (-33), 3) := by decide +kernel
theorem d_MD_isNeeded_48 : decode c_MD_isNeeded 48 = .ok (.iinc 2 1, 3) := by decide +kernel
theorem d_MD_isNeeded_51 : decode c_MD_isNeeded 51 = .ok (.goto (-49), 3) := by decide +kernel
theorem d_MD_isNeeded_54 : decode c_MD_isNeeded 54 = .ok (.iconst 0, 1) := by decide +kernel
theorem d_MD_isNeeded_55 : decode c_MD_isNeeded 55 = .ok (.ireturn, 1) := by decide +kernel
abbrev c_MD_bad : ByteArray := prog_7_method_11_code
abbrev y_MD_bad : MethodName := ⟨"StripeFieldModel", "bad", "(III)I"⟩
theorem d_MD_bad_0 : decode c_MD_bad 0 = .ok (.iload_n 2, 1) := by decide +kernel
theorem d_MD_bad_1 : decode c_MD_bad 1 = .ok (.aload_n 0, 1) := by decide +kernel
theorem d_MD_bad_2 : decode c_MD_bad 2 = .ok (.getfield 55, 3) := by decide +kernel
theorem d_MD_bad_5 : decode c_MD_bad 5 = .ok (.idiv, 1) := by decide +kernel
theorem d_MD_bad_6 : decode c_MD_bad 6 = .ok (.aload_n 0, 1) := by decide +kernel
theorem d_MD_bad_7 : decode c_MD_bad 7 = .ok (.getfield 55, 3) := by decide +kernel
theorem d_MD_bad_10 : decode c_MD_bad 10 = .ok (.imul, 1) := by decide +kernel
theorem d_MD_bad_11 : decode c_MD_bad 11 = .ok (.istore 4, 2) := by decide +kernel
theorem d_MD_bad_13 : decode c_MD_bad 13 = .ok (.iconst 0, 1) := by decide +kernel
theorem d_MD_bad_14 : decode c_MD_bad 14 = .ok (.istore 5, 2) := by decide +kernel
theorem d_MD_bad_16 : decode c_MD_bad 16 = .ok (.iload 4, 2) := by decide +kernel
theorem d_MD_bad_18 : decode c_MD_bad 18 = .ok (.istore 6, 2) := by decide +kernel
theorem d_MD_bad_20 : decode c_MD_bad 20 = .ok (.iload 6, 2) := by decide +kernel
theorem d_MD_bad_22 : decode c_MD_bad 22 = .ok (.iload 4, 2) := by decide +kernel
theorem d_MD_bad_24 : decode c_MD_bad 24 = .ok (.aload_n 0, 1) := by decide +kernel
theorem d_MD_bad_25 : decode c_MD_bad 25 = .ok (.getfield 55, 3) := by decide +kernel
theorem d_MD_bad_28 : decode c_MD_bad 28 = .ok (.iadd, 1) := by decide +kernel
theorem d_MD_bad_29 : decode c_MD_bad 29 = .ok (.if_icmp .ge 49, 3) := by decide +kernel
theorem d_MD_bad_32 : decode c_MD_bad 32 = .ok (.aload_n 0, 1) := by decide +kernel
theorem d_MD_bad_33 : decode c_MD_bad 33 = .ok (.iload_n 1, 1) := by decide +kernel
theorem d_MD_bad_34 : decode c_MD_bad 34 = .ok (.iload 6, 2) := by decide +kernel
theorem d_MD_bad_36 : decode c_MD_bad 36 = .ok (.invokevirtual 84, 3) := by decide +kernel
theorem d_MD_bad_39 : decode c_MD_bad 39 = .ok (.istore 7, 2) := by decide +kernel
theorem d_MD_bad_41 : decode c_MD_bad 41 = .ok (.iload 5, 2) := by decide +kernel
theorem d_MD_bad_43 : decode c_MD_bad 43 = .ok (.iload 7, 2) := by decide +kernel
theorem d_MD_bad_45 : decode c_MD_bad 45 = .ok (.ifCond .lt 19, 3) := by decide +kernel
theorem d_MD_bad_48 : decode c_MD_bad 48 = .ok (.iload 7, 2) := by decide +kernel
theorem d_MD_bad_50 : decode c_MD_bad 50 = .ok (.iload_n 3, 1) := by decide +kernel
theorem d_MD_bad_51 : decode c_MD_bad 51 = .ok (.if_icmp .eq 13, 3) := by decide +kernel
theorem d_MD_bad_54 : decode c_MD_bad 54 = .ok (.aload_n 0, 1) := by decide +kernel
theorem d_MD_bad_55 : decode c_MD_bad 55 = .ok (.iload_n 1, 1) := by decide +kernel
theorem d_MD_bad_56 : decode c_MD_bad 56 = .ok (.iload 6, 2) := by decide +kernel
theorem d_MD_bad_58 : decode c_MD_bad 58 = .ok (.invokevirtual 87, 3) := by decide +kernel
theorem d_MD_bad_61 : decode c_MD_bad 61 = .ok (.ifCond .eq 7, 3) := by decide +kernel
theorem d_MD_bad_64 : decode c_MD_bad 64 = .ok (.iconst 1, 1) := by decide +kernel
theorem d_MD_bad_65 : decode c_MD_bad 65 = .ok (.goto 4, 3) := by decide +kernel
theorem d_MD_bad_68 : decode c_MD_bad 68 = .ok (.iconst 0, 1) := by decide +kernel
theorem d_MD_bad_69 : decode c_MD_bad 69 = .ok (.iadd, 1) := by decide +kernel
theorem d_MD_bad_70 : decode c_MD_bad 70 = .ok (.istore 5, 2) := by decide +kernel
theorem d_MD_bad_72 : decode c_MD_bad 72 = .ok (.iinc 6 1, 3) := by decide +kernel
theorem d_MD_bad_75 : decode c_MD_bad 75 = .ok (.goto (-55), 3) := by decide +kernel
theorem d_MD_bad_78 : decode c_MD_bad 78 = .ok (.iload 5, 2) := by decide +kernel
theorem d_MD_bad_80 : decode c_MD_bad 80 = .ok (.ireturn, 1) := by decide +kernel
abbrev c_MD_isSpoilt : ByteArray := prog_7_method_10_code
abbrev y_MD_isSpoilt : MethodName := ⟨"StripeFieldModel", "isSpoilt", "(II)Z"⟩
theorem d_MD_isSpoilt_0 : decode c_MD_isSpoilt 0 = .ok (.aload_n 0, 1) := by decide +kernel
theorem d_MD_isSpoilt_1 : decode c_MD_isSpoilt 1 = .ok (.iload_n 1, 1) := by decide +kernel
theorem d_MD_isSpoilt_2 : decode c_MD_isSpoilt 2 = .ok (.iload_n 2, 1) := by decide +kernel
theorem d_MD_isSpoilt_3 : decode c_MD_isSpoilt 3 = .ok (.invokevirtual 84, 3) := by decide +kernel
theorem d_MD_isSpoilt_6 : decode c_MD_isSpoilt 6 = .ok (.istore_n 3, 1) := by decide +kernel
theorem d_MD_isSpoilt_7 : decode c_MD_isSpoilt 7 = .ok (.iload_n 3, 1) := by decide +kernel
theorem d_MD_isSpoilt_8 : decode c_MD_isSpoilt 8 = .ok (.ifCond .lt 16, 3) := by decide +kernel
theorem d_MD_isSpoilt_11 : decode c_MD_isSpoilt 11 = .ok (.aload_n 0, 1) := by decide +kernel
theorem d_MD_isSpoilt_12 : decode c_MD_isSpoilt 12 = .ok (.iload_n 3, 1) := by decide +kernel
theorem d_MD_isSpoilt_13 : decode c_MD_isSpoilt 13 = .ok (.iload_n 1, 1) := by decide +kernel
theorem d_MD_isSpoilt_14 : decode c_MD_isSpoilt 14 = .ok (.invokevirtual 77, 3) := by decide +kernel
theorem d_MD_isSpoilt_17 : decode c_MD_isSpoilt 17 = .ok (.ifCond .ne 7, 3) := by decide +kernel
theorem d_MD_isSpoilt_20 : decode c_MD_isSpoilt 20 = .ok (.iconst 1, 1) := by decide +kernel
theorem d_MD_isSpoilt_21 : decode c_MD_isSpoilt 21 = .ok (.goto 4, 3) := by decide +kernel
theorem d_MD_isSpoilt_24 : decode c_MD_isSpoilt 24 = .ok (.iconst 0, 1) := by decide +kernel
theorem d_MD_isSpoilt_25 : decode c_MD_isSpoilt 25 = .ok (.ireturn, 1) := by decide +kernel
abbrev c_MD_replace : ByteArray := prog_7_method_27_code
abbrev y_MD_replace : MethodName := ⟨"StripeFieldModel", "replace", "(I)Z"⟩
theorem d_MD_replace_0 : decode c_MD_replace 0 = .ok (.aload_n 0, 1) := by decide +kernel
theorem d_MD_replace_1 : decode c_MD_replace 1 = .ok (.iload_n 1, 1) := by decide +kernel
theorem d_MD_replace_2 : decode c_MD_replace 2 = .ok (.ifCond .lt 11, 3) := by decide +kernel
theorem d_MD_replace_5 : decode c_MD_replace 5 = .ok (.iload_n 1, 1) := by decide +kernel
theorem d_MD_replace_6 : decode c_MD_replace 6 = .ok (.aload_n 0, 1) := by decide +kernel
theorem d_MD_replace_7 : decode c_MD_replace 7 = .ok (.getfield 52, 3) := by decide +kernel
theorem d_MD_replace_10 : decode c_MD_replace 10 = .ok (.if_icmp .lt 7, 3) := by decide +kernel
theorem d_MD_replace_13 : decode c_MD_replace 13 = .ok (.iconst 1, 1) := by decide +kernel
theorem d_MD_replace_14 : decode c_MD_replace 14 = .ok (.goto 4, 3) := by decide +kernel
theorem d_MD_replace_17 : decode c_MD_replace 17 = .ok (.iconst 0, 1) := by decide +kernel
theorem d_MD_replace_18 : decode c_MD_replace 18 = .ok (.iconst 1, 1) := by decide +kernel
theorem d_MD_replace_19 : decode c_MD_replace 19 = .ok (.invokevirtual 100, 3) := by decide +kernel
theorem d_MD_replace_22 : decode c_MD_replace 22 = .ok (.ifCond .ne 12, 3) := by decide +kernel
theorem d_MD_replace_25 : decode c_MD_replace 25 = .ok (.aload_n 0, 1) := by decide +kernel
theorem d_MD_replace_26 : decode c_MD_replace 26 = .ok (.getfield 13, 3) := by decide +kernel
theorem d_MD_replace_29 : decode c_MD_replace 29 = .ok (.iload_n 1, 1) := by decide +kernel
theorem d_MD_replace_30 : decode c_MD_replace 30 = .ok (.baload, 1) := by decide +kernel
theorem d_MD_replace_31 : decode c_MD_replace 31 = .ok (.ifCond .eq 5, 3) := by decide +kernel
theorem d_MD_replace_34 : decode c_MD_replace 34 = .ok (.iconst 0, 1) := by decide +kernel
theorem d_MD_replace_35 : decode c_MD_replace 35 = .ok (.ireturn, 1) := by decide +kernel
theorem d_MD_replace_36 : decode c_MD_replace 36 = .ok (.aload_n 0, 1) := by decide +kernel
theorem d_MD_replace_37 : decode c_MD_replace 37 = .ok (.getfield 13, 3) := by decide +kernel
theorem d_MD_replace_40 : decode c_MD_replace 40 = .ok (.iload_n 1, 1) := by decide +kernel
theorem d_MD_replace_41 : decode c_MD_replace 41 = .ok (.iconst 1, 1) := by decide +kernel
theorem d_MD_replace_42 : decode c_MD_replace 42 = .ok (.bastore, 1) := by decide +kernel
theorem d_MD_replace_43 : decode c_MD_replace 43 = .ok (.iconst 0, 1) := by decide +kernel
theorem d_MD_replace_44 : decode c_MD_replace 44 = .ok (.istore_n 2, 1) := by decide +kernel
theorem d_MD_replace_45 : decode c_MD_replace 45 = .ok (.iload_n 2, 1) := by decide +kernel
theorem d_MD_replace_46 : decode c_MD_replace 46 = .ok (.aload_n 0, 1) := by decide +kernel
theorem d_MD_replace_47 : decode c_MD_replace 47 = .ok (.getfield 58, 3) := by decide +kernel
theorem d_MD_replace_50 : decode c_MD_replace 50 = .ok (.if_icmp .gt 68, 3) := by decide +kernel
theorem d_MD_replace_53 : decode c_MD_replace 53 = .ok (.aload_n 0, 1) := by decide +kernel
theorem d_MD_replace_54 : decode c_MD_replace 54 = .ok (.getfield 17, 3) := by decide +kernel
theorem d_MD_replace_57 : decode c_MD_replace 57 = .ok (.iload_n 1, 1) := by decide +kernel
theorem d_MD_replace_58 : decode c_MD_replace 58 = .ok (.iload_n 2, 1) := by decide +kernel
theorem d_MD_replace_59 : decode c_MD_replace 59 = .ok (.invokestatic 67, 3) := by decide +kernel
theorem d_MD_replace_62 : decode c_MD_replace 62 = .ok (.iconst 0, 1) := by decide +kernel
theorem d_MD_replace_63 : decode c_MD_replace 63 = .ok (.bastore, 1) := by decide +kernel
theorem d_MD_replace_64 : decode c_MD_replace 64 = .ok (.aload_n 0, 1) := by decide +kernel
theorem d_MD_replace_65 : decode c_MD_replace 65 = .ok (.getfield 20, 3) := by decide +kernel
theorem d_MD_replace_68 : decode c_MD_replace 68 = .ok (.iload_n 1, 1) := by decide +kernel
theorem d_MD_replace_69 : decode c_MD_replace 69 = .ok (.iload_n 2, 1) := by decide +kernel
theorem d_MD_replace_70 : decode c_MD_replace 70 = .ok (.invokestatic 67, 3) := by decide +kernel
theorem d_MD_replace_73 : decode c_MD_replace 73 = .ok (.iconst 0, 1) := by decide +kernel
theorem d_MD_replace_74 : decode c_MD_replace 74 = .ok (.iastore, 1) := by decide +kernel
theorem d_MD_replace_75 : decode c_MD_replace 75 = .ok (.bipush 70, 2) := by decide +kernel
theorem d_MD_replace_77 : decode c_MD_replace 77 = .ok (.iload_n 1, 1) := by decide +kernel
theorem d_MD_replace_78 : decode c_MD_replace 78 = .ok (.iload_n 2, 1) := by decide +kernel
theorem d_MD_replace_79 : decode c_MD_replace 79 = .ok (.invokestatic 67, 3) := by decide +kernel
theorem d_MD_replace_82 : decode c_MD_replace 82 = .ok (.imul, 1) := by decide +kernel
theorem d_MD_replace_83 : decode c_MD_replace 83 = .ok (.istore_n 3, 1) := by decide +kernel
theorem d_MD_replace_84 : decode c_MD_replace 84 = .ok (.iload_n 3, 1) := by decide +kernel
theorem d_MD_replace_85 : decode c_MD_replace 85 = .ok (.bipush 70, 2) := by decide +kernel
theorem d_MD_replace_87 : decode c_MD_replace 87 = .ok (.iload_n 1, 1) := by decide +kernel
theorem d_MD_replace_88 : decode c_MD_replace 88 = .ok (.iload_n 2, 1) := by decide +kernel
theorem d_MD_replace_89 : decode c_MD_replace 89 = .ok (.invokestatic 67, 3) := by decide +kernel
theorem d_MD_replace_92 : decode c_MD_replace 92 = .ok (.imul, 1) := by decide +kernel
theorem d_MD_replace_93 : decode c_MD_replace 93 = .ok (.bipush 70, 2) := by decide +kernel
theorem d_MD_replace_95 : decode c_MD_replace 95 = .ok (.iadd, 1) := by decide +kernel
theorem d_MD_replace_96 : decode c_MD_replace 96 = .ok (.if_icmp .ge 16, 3) := by decide +kernel
theorem d_MD_replace_99 : decode c_MD_replace 99 = .ok (.aload_n 0, 1) := by decide +kernel
theorem d_MD_replace_100 : decode c_MD_replace 100 = .ok (.getfield 24, 3) := by decide +kernel
theorem d_MD_replace_103 : decode c_MD_replace 103 = .ok (.iload_n 3, 1) := by decide +kernel
theorem d_MD_replace_104 : decode c_MD_replace 104 = .ok (.iconst 0, 1) := by decide +kernel
theorem d_MD_replace_105 : decode c_MD_replace 105 = .ok (.bastore, 1) := by decide +kernel
theorem d_MD_replace_106 : decode c_MD_replace 106 = .ok (.iinc 3 1, 3) := by decide +kernel
theorem d_MD_replace_109 : decode c_MD_replace 109 = .ok (.goto (-25), 3) := by decide +kernel
theorem d_MD_replace_112 : decode c_MD_replace 112 = .ok (.iinc 2 1, 3) := by decide +kernel
theorem d_MD_replace_115 : decode c_MD_replace 115 = .ok (.goto (-70), 3) := by decide +kernel
theorem d_MD_replace_118 : decode c_MD_replace 118 = .ok (.iconst 1, 1) := by decide +kernel
theorem d_MD_replace_119 : decode c_MD_replace 119 = .ok (.ireturn, 1) := by decide +kernel
abbrev c_MD_spoil : ByteArray := prog_7_method_30_code
abbrev y_MD_spoil : MethodName := ⟨"StripeFieldModel", "spoil", "(IIIIJ)Z"⟩
theorem d_MD_spoil_0 : decode c_MD_spoil 0 = .ok (.iload 4, 2) := by decide +kernel
theorem d_MD_spoil_2 : decode c_MD_spoil 2 = .ok (.ifCond .le 27, 3) := by decide +kernel
theorem d_MD_spoil_5 : decode c_MD_spoil 5 = .ok (.iload 4, 2) := by decide +kernel
theorem d_MD_spoil_7 : decode c_MD_spoil 7 = .ok (.bipush 9, 2) := by decide +kernel
theorem d_MD_spoil_9 : decode c_MD_spoil 9 = .ok (.if_icmp .ge 20, 3) := by decide +kernel
theorem d_MD_spoil_12 : decode c_MD_spoil 12 = .ok (.iload_n 3, 1) := by decide +kernel
theorem d_MD_spoil_13 : decode c_MD_spoil 13 = .ok (.ifCond .lt 16, 3) := by decide +kernel
theorem d_MD_spoil_16 : decode c_MD_spoil 16 = .ok (.iload_n 3, 1) := by decide +kernel
theorem d_MD_spoil_17 : decode c_MD_spoil 17 = .ok (.bipush 70, 2) := by decide +kernel
theorem d_MD_spoil_19 : decode c_MD_spoil 19 = .ok (.iload 4, 2) := by decide +kernel
theorem d_MD_spoil_21 : decode c_MD_spoil 21 = .ok (.isub, 1) := by decide +kernel
theorem d_MD_spoil_22 : decode c_MD_spoil 22 = .ok (.if_icmp .gt 7, 3) := by decide +kernel
theorem d_MD_spoil_25 : decode c_MD_spoil 25 = .ok (.iconst 1, 1) := by decide +kernel
theorem d_MD_spoil_26 : decode c_MD_spoil 26 = .ok (.goto 4, 3) := by decide +kernel
theorem d_MD_spoil_29 : decode c_MD_spoil 29 = .ok (.iconst 0, 1) := by decide +kernel
theorem d_MD_spoil_30 : decode c_MD_spoil 30 = .ok (.istore 7, 2) := by decide +kernel
theorem d_MD_spoil_32 : decode c_MD_spoil 32 = .ok (.aload_n 0, 1) := by decide +kernel
theorem d_MD_spoil_33 : decode c_MD_spoil 33 = .ok (.iload_n 1, 1) := by decide +kernel
theorem d_MD_spoil_34 : decode c_MD_spoil 34 = .ok (.ifCond .lt 57, 3) := by decide +kernel
theorem d_MD_spoil_37 : decode c_MD_spoil 37 = .ok (.iload_n 1, 1) := by decide +kernel
theorem d_MD_spoil_38 : decode c_MD_spoil 38 = .ok (.aload_n 0, 1) := by decide +kernel
theorem d_MD_spoil_39 : decode c_MD_spoil 39 = .ok (.getfield 52, 3) := by decide +kernel
theorem d_MD_spoil_42 : decode c_MD_spoil 42 = .ok (.if_icmp .ge 49, 3) := by decide +kernel
theorem d_MD_spoil_45 : decode c_MD_spoil 45 = .ok (.iload_n 2, 1) := by decide +kernel
theorem d_MD_spoil_46 : decode c_MD_spoil 46 = .ok (.ifCond .lt 45, 3) := by decide +kernel
theorem d_MD_spoil_49 : decode c_MD_spoil 49 = .ok (.iload_n 2, 1) := by decide +kernel
theorem d_MD_spoil_50 : decode c_MD_spoil 50 = .ok (.aload_n 0, 1) := by decide +kernel
theorem d_MD_spoil_51 : decode c_MD_spoil 51 = .ok (.getfield 58, 3) := by decide +kernel
theorem d_MD_spoil_54 : decode c_MD_spoil 54 = .ok (.if_icmp .ge 37, 3) := by decide +kernel
theorem d_MD_spoil_57 : decode c_MD_spoil 57 = .ok (.iload 7, 2) := by decide +kernel
theorem d_MD_spoil_59 : decode c_MD_spoil 59 = .ok (.ifCond .eq 32, 3) := by decide +kernel
theorem d_MD_spoil_62 : decode c_MD_spoil 62 = .ok (.iload 4, 2) := by decide +kernel
theorem d_MD_spoil_64 : decode c_MD_spoil 64 = .ok (.bipush 8, 2) := by decide +kernel
theorem d_MD_spoil_66 : decode c_MD_spoil 66 = .ok (.if_icmp .ne 8, 3) := by decide +kernel
theorem d_MD_spoil_69 : decode c_MD_spoil 69 = .ok (.lload 5, 2) := by decide +kernel
theorem d_MD_spoil_71 : decode c_MD_spoil 71 = .ok (.goto 15, 3) := by decide +kernel
theorem d_MD_spoil_74 : decode c_MD_spoil 74 = .ok (.lload 5, 2) := by decide +kernel
theorem d_MD_spoil_76 : decode c_MD_spoil 76 = .ok (.lconst 1, 1) := by decide +kernel
theorem d_MD_spoil_77 : decode c_MD_spoil 77 = .ok (.bipush 8, 2) := by decide +kernel
theorem d_MD_spoil_79 : decode c_MD_spoil 79 = .ok (.iload 4, 2) := by decide +kernel
theorem d_MD_spoil_81 : decode c_MD_spoil 81 = .ok (.imul, 1) := by decide +kernel
theorem d_MD_spoil_82 : decode c_MD_spoil 82 = .ok (.lshl, 1) := by decide +kernel
theorem d_MD_spoil_83 : decode c_MD_spoil 83 = .ok (.lconst 1, 1) := by decide +kernel
theorem d_MD_spoil_84 : decode c_MD_spoil 84 = .ok (.lsub, 1) := by decide +kernel
theorem d_MD_spoil_85 : decode c_MD_spoil 85 = .ok (.land, 1) := by decide +kernel
theorem d_MD_spoil_86 : decode c_MD_spoil 86 = .ok (.lconst 0, 1) := by decide +kernel
theorem d_MD_spoil_87 : decode c_MD_spoil 87 = .ok (.lcmp, 1) := by decide +kernel
theorem d_MD_spoil_88 : decode c_MD_spoil 88 = .ok (.ifCond .ne 7, 3) := by decide +kernel
theorem d_MD_spoil_91 : decode c_MD_spoil 91 = .ok (.iconst 1, 1) := by decide +kernel
theorem d_MD_spoil_92 : decode c_MD_spoil 92 = .ok (.goto 4, 3) := by decide +kernel
theorem d_MD_spoil_95 : decode c_MD_spoil 95 = .ok (.iconst 0, 1) := by decide +kernel
theorem d_MD_spoil_96 : decode c_MD_spoil 96 = .ok (.iconst 1, 1) := by decide +kernel
theorem d_MD_spoil_97 : decode c_MD_spoil 97 = .ok (.invokevirtual 100, 3) := by decide +kernel
theorem d_MD_spoil_100 : decode c_MD_spoil 100 = .ok (.ifCond .eq 5, 3) := by decide +kernel
theorem d_MD_spoil_103 : decode c_MD_spoil 103 = .ok (.iconst 0, 1) := by decide +kernel
theorem d_MD_spoil_104 : decode c_MD_spoil 104 = .ok (.ireturn, 1) := by decide +kernel
theorem d_MD_spoil_105 : decode c_MD_spoil 105 = .ok (.aload_n 0, 1) := by decide +kernel
theorem d_MD_spoil_106 : decode c_MD_spoil 106 = .ok (.getfield 31, 3) := by decide +kernel
theorem d_MD_spoil_109 : decode c_MD_spoil 109 = .ok (.ifCond .eq 12, 3) := by decide +kernel
theorem d_MD_spoil_112 : decode c_MD_spoil 112 = .ok (.aload_n 0, 1) := by decide +kernel
theorem d_MD_spoil_113 : decode c_MD_spoil 113 = .ok (.getfield 13, 3) := by decide +kernel
theorem d_MD_spoil_116 : decode c_MD_spoil 116 = .ok (.iload_n 1, 1) := by decide +kernel
theorem d_MD_spoil_117 : decode c_MD_spoil 117 = .ok (.baload, 1) := by decide +kernel
theorem d_MD_spoil_118 : decode c_MD_spoil 118 = .ok (.ifCond .ne 5, 3) := by decide +kernel
theorem d_MD_spoil_121 : decode c_MD_spoil 121 = .ok (.iconst 0, 1) := by decide +kernel
theorem d_MD_spoil_122 : decode c_MD_spoil 122 = .ok (.ireturn, 1) := by decide +kernel
theorem d_MD_spoil_123 : decode c_MD_spoil 123 = .ok (.aload_n 0, 1) := by decide +kernel
theorem d_MD_spoil_124 : decode c_MD_spoil 124 = .ok (.iload_n 2, 1) := by decide +kernel
theorem d_MD_spoil_125 : decode c_MD_spoil 125 = .ok (.iload_n 1, 1) := by decide +kernel
theorem d_MD_spoil_126 : decode c_MD_spoil 126 = .ok (.invokevirtual 94, 3) := by decide +kernel
theorem d_MD_spoil_129 : decode c_MD_spoil 129 = .ok (.istore 8, 2) := by decide +kernel
theorem d_MD_spoil_131 : decode c_MD_spoil 131 = .ok (.iload 8, 2) := by decide +kernel
theorem d_MD_spoil_133 : decode c_MD_spoil 133 = .ok (.ifCond .ge 5, 3) := by decide +kernel
theorem d_MD_spoil_136 : decode c_MD_spoil 136 = .ok (.iconst 0, 1) := by decide +kernel
theorem d_MD_spoil_137 : decode c_MD_spoil 137 = .ok (.ireturn, 1) := by decide +kernel
theorem d_MD_spoil_138 : decode c_MD_spoil 138 = .ok (.aload_n 0, 1) := by decide +kernel
theorem d_MD_spoil_139 : decode c_MD_spoil 139 = .ok (.bipush 70, 2) := by decide +kernel
theorem d_MD_spoil_141 : decode c_MD_spoil 141 = .ok (.iload_n 1, 1) := by decide +kernel
theorem d_MD_spoil_142 : decode c_MD_spoil 142 = .ok (.iload_n 2, 1) := by decide +kernel
theorem d_MD_spoil_143 : decode c_MD_spoil 143 = .ok (.invokestatic 67, 3) := by decide +kernel
theorem d_MD_spoil_146 : decode c_MD_spoil 146 = .ok (.imul, 1) := by decide +kernel
theorem d_MD_spoil_147 : decode c_MD_spoil 147 = .ok (.iload_n 3, 1) := by decide +kernel
theorem d_MD_spoil_148 : decode c_MD_spoil 148 = .ok (.iadd, 1) := by decide +kernel
theorem d_MD_spoil_149 : decode c_MD_spoil 149 = .ok (.iload 4, 2) := by decide +kernel
theorem d_MD_spoil_151 : decode c_MD_spoil 151 = .ok (.lload 5, 2) := by decide +kernel
theorem d_MD_spoil_153 : decode c_MD_spoil 153 = .ok (.invokevirtual 141, 3) := by decide +kernel
theorem d_MD_spoil_156 : decode c_MD_spoil 156 = .ok (.aload_n 0, 1) := by decide +kernel
theorem d_MD_spoil_157 : decode c_MD_spoil 157 = .ok (.iload_n 2, 1) := by decide +kernel
theorem d_MD_spoil_158 : decode c_MD_spoil 158 = .ok (.iload 8, 2) := by decide +kernel
theorem d_MD_spoil_160 : decode c_MD_spoil 160 = .ok (.iconst (-1), 1) := by decide +kernel
theorem d_MD_spoil_161 : decode c_MD_spoil 161 = .ok (.invokevirtual 90, 3) := by decide +kernel
theorem d_MD_spoil_164 : decode c_MD_spoil 164 = .ok (.iconst 2, 1) := by decide +kernel
theorem d_MD_spoil_165 : decode c_MD_spoil 165 = .ok (.if_icmp .ge 17, 3) := by decide +kernel
theorem d_MD_spoil_168 : decode c_MD_spoil 168 = .ok (.aload_n 0, 1) := by decide +kernel
theorem d_MD_spoil_169 : decode c_MD_spoil 169 = .ok (.iload_n 1, 1) := by decide +kernel
theorem d_MD_spoil_170 : decode c_MD_spoil 170 = .ok (.iload_n 2, 1) := by decide +kernel
theorem d_MD_spoil_171 : decode c_MD_spoil 171 = .ok (.invokestatic 67, 3) := by decide +kernel
theorem d_MD_spoil_174 : decode c_MD_spoil 174 = .ok (.invokevirtual 145, 3) := by decide +kernel
theorem d_MD_spoil_177 : decode c_MD_spoil 177 = .ok (.ifCond .ne 5, 3) := by decide +kernel
theorem d_MD_spoil_180 : decode c_MD_spoil 180 = .ok (.iconst 1, 1) := by decide +kernel
theorem d_MD_spoil_181 : decode c_MD_spoil 181 = .ok (.ireturn, 1) := by decide +kernel
theorem d_MD_spoil_182 : decode c_MD_spoil 182 = .ok (.aload_n 0, 1) := by decide +kernel
theorem d_MD_spoil_183 : decode c_MD_spoil 183 = .ok (.bipush 70, 2) := by decide +kernel
theorem d_MD_spoil_185 : decode c_MD_spoil 185 = .ok (.iload_n 1, 1) := by decide +kernel
theorem d_MD_spoil_186 : decode c_MD_spoil 186 = .ok (.iload_n 2, 1) := by decide +kernel
theorem d_MD_spoil_187 : decode c_MD_spoil 187 = .ok (.invokestatic 67, 3) := by decide +kernel
theorem d_MD_spoil_190 : decode c_MD_spoil 190 = .ok (.imul, 1) := by decide +kernel
theorem d_MD_spoil_191 : decode c_MD_spoil 191 = .ok (.iload_n 3, 1) := by decide +kernel
theorem d_MD_spoil_192 : decode c_MD_spoil 192 = .ok (.iadd, 1) := by decide +kernel
theorem d_MD_spoil_193 : decode c_MD_spoil 193 = .ok (.iload 4, 2) := by decide +kernel
theorem d_MD_spoil_195 : decode c_MD_spoil 195 = .ok (.lload 5, 2) := by decide +kernel
theorem d_MD_spoil_197 : decode c_MD_spoil 197 = .ok (.invokevirtual 141, 3) := by decide +kernel
theorem d_MD_spoil_200 : decode c_MD_spoil 200 = .ok (.iconst 0, 1) := by decide +kernel
theorem d_MD_spoil_201 : decode c_MD_spoil 201 = .ok (.ireturn, 1) := by decide +kernel
abbrev c_MD_turn : ByteArray := prog_7_method_28_code
abbrev y_MD_turn : MethodName := ⟨"StripeFieldModel", "turn", "(IIJ)V"⟩
theorem d_MD_turn_0 : decode c_MD_turn 0 = .ok (.iconst 0, 1) := by decide +kernel
theorem d_MD_turn_1 : decode c_MD_turn 1 = .ok (.istore 5, 2) := by decide +kernel
theorem d_MD_turn_3 : decode c_MD_turn 3 = .ok (.iload 5, 2) := by decide +kernel
theorem d_MD_turn_5 : decode c_MD_turn 5 = .ok (.iload_n 2, 1) := by decide +kernel
theorem d_MD_turn_6 : decode c_MD_turn 6 = .ok (.if_icmp .ge 41, 3) := by decide +kernel
theorem d_MD_turn_9 : decode c_MD_turn 9 = .ok (.aload_n 0, 1) := by decide +kernel
theorem d_MD_turn_10 : decode c_MD_turn 10 = .ok (.getfield 24, 3) := by decide +kernel
theorem d_MD_turn_13 : decode c_MD_turn 13 = .ok (.iload_n 1, 1) := by decide +kernel
theorem d_MD_turn_14 : decode c_MD_turn 14 = .ok (.iload 5, 2) := by decide +kernel
theorem d_MD_turn_16 : decode c_MD_turn 16 = .ok (.iadd, 1) := by decide +kernel
theorem d_MD_turn_17 : decode c_MD_turn 17 = .ok (.aload_n 0, 1) := by decide +kernel
theorem d_MD_turn_18 : decode c_MD_turn 18 = .ok (.getfield 24, 3) := by decide +kernel
theorem d_MD_turn_21 : decode c_MD_turn 21 = .ok (.iload_n 1, 1) := by decide +kernel
theorem d_MD_turn_22 : decode c_MD_turn 22 = .ok (.iload 5, 2) := by decide +kernel
theorem d_MD_turn_24 : decode c_MD_turn 24 = .ok (.iadd, 1) := by decide +kernel
theorem d_MD_turn_25 : decode c_MD_turn 25 = .ok (.baload, 1) := by decide +kernel
theorem d_MD_turn_26 : decode c_MD_turn 26 = .ok (.lload_n 3, 1) := by decide +kernel
theorem d_MD_turn_27 : decode c_MD_turn 27 = .ok (.bipush 8, 2) := by decide +kernel
theorem d_MD_turn_29 : decode c_MD_turn 29 = .ok (.iload 5, 2) := by decide +kernel
theorem d_MD_turn_31 : decode c_MD_turn 31 = .ok (.imul, 1) := by decide +kernel
theorem d_MD_turn_32 : decode c_MD_turn 32 = .ok (.lshr, 1) := by decide +kernel
theorem d_MD_turn_33 : decode c_MD_turn 33 = .ok (.ldc2_w 107, 3) := by decide +kernel
theorem d_MD_turn_36 : decode c_MD_turn 36 = .ok (.land, 1) := by decide +kernel
theorem d_MD_turn_37 : decode c_MD_turn 37 = .ok (.l2i, 1) := by decide +kernel
theorem d_MD_turn_38 : decode c_MD_turn 38 = .ok (.ixor, 1) := by decide +kernel
theorem d_MD_turn_39 : decode c_MD_turn 39 = .ok (.i2b, 1) := by decide +kernel
theorem d_MD_turn_40 : decode c_MD_turn 40 = .ok (.bastore, 1) := by decide +kernel
theorem d_MD_turn_41 : decode c_MD_turn 41 = .ok (.iinc 5 1, 3) := by decide +kernel
theorem d_MD_turn_44 : decode c_MD_turn 44 = .ok (.goto (-41), 3) := by decide +kernel
theorem d_MD_turn_47 : decode c_MD_turn 47 = .ok (.return_, 1) := by decide +kernel
abbrev c_MD_isUnseen : ByteArray := prog_7_method_29_code
abbrev y_MD_isUnseen : MethodName := ⟨"StripeFieldModel", "isUnseen", "(I)Z"⟩
theorem d_MD_isUnseen_0 : decode c_MD_isUnseen 0 = .ok (.iconst 0, 1) := by decide +kernel
theorem d_MD_isUnseen_1 : decode c_MD_isUnseen 1 = .ok (.istore_n 2, 1) := by decide +kernel
theorem d_MD_isUnseen_2 : decode c_MD_isUnseen 2 = .ok (.iconst 0, 1) := by decide +kernel
theorem d_MD_isUnseen_3 : decode c_MD_isUnseen 3 = .ok (.istore_n 3, 1) := by decide +kernel
theorem d_MD_isUnseen_4 : decode c_MD_isUnseen 4 = .ok (.bipush 70, 2) := by decide +kernel
theorem d_MD_isUnseen_6 : decode c_MD_isUnseen 6 = .ok (.iload_n 1, 1) := by decide +kernel
theorem d_MD_isUnseen_7 : decode c_MD_isUnseen 7 = .ok (.imul, 1) := by decide +kernel
theorem d_MD_isUnseen_8 : decode c_MD_isUnseen 8 = .ok (.istore 4, 2) := by decide +kernel
theorem d_MD_isUnseen_10 : decode c_MD_isUnseen 10 = .ok (.iload 4, 2) := by decide +kernel
theorem d_MD_isUnseen_12 : decode c_MD_isUnseen 12 = .ok (.bipush 70, 2) := by decide +kernel
theorem d_MD_isUnseen_14 : decode c_MD_isUnseen 14 = .ok (.iload_n 1, 1) := by decide +kernel
theorem d_MD_isUnseen_15 : decode c_MD_isUnseen 15 = .ok (.imul, 1) := by decide +kernel
theorem d_MD_isUnseen_16 : decode c_MD_isUnseen 16 = .ok (.bipush 70, 2) := by decide +kernel
theorem d_MD_isUnseen_18 : decode c_MD_isUnseen 18 = .ok (.iadd, 1) := by decide +kernel
theorem d_MD_isUnseen_19 : decode c_MD_isUnseen 19 = .ok (.if_icmp .ge 29, 3) := by decide +kernel
theorem d_MD_isUnseen_22 : decode c_MD_isUnseen 22 = .ok (.iload_n 3, 1) := by decide +kernel
theorem d_MD_isUnseen_23 : decode c_MD_isUnseen 23 = .ok (.ifCond .ne 13, 3) := by decide +kernel
theorem d_MD_isUnseen_26 : decode c_MD_isUnseen 26 = .ok (.aload_n 0, 1) := by decide +kernel
theorem d_MD_isUnseen_27 : decode c_MD_isUnseen 27 = .ok (.getfield 24, 3) := by decide +kernel
theorem d_MD_isUnseen_30 : decode c_MD_isUnseen 30 = .ok (.iload 4, 2) := by decide +kernel
theorem d_MD_isUnseen_32 : decode c_MD_isUnseen 32 = .ok (.baload, 1) := by decide +kernel
theorem d_MD_isUnseen_33 : decode c_MD_isUnseen 33 = .ok (.ifCond .eq 7, 3) := by decide +kernel
theorem d_MD_isUnseen_36 : decode c_MD_isUnseen 36 = .ok (.iconst 1, 1) := by decide +kernel
theorem d_MD_isUnseen_37 : decode c_MD_isUnseen 37 = .ok (.goto 4, 3) := by decide +kernel
theorem d_MD_isUnseen_40 : decode c_MD_isUnseen 40 = .ok (.iconst 0, 1) := by decide +kernel
theorem d_MD_isUnseen_41 : decode c_MD_isUnseen 41 = .ok (.istore_n 3, 1) := by decide +kernel
theorem d_MD_isUnseen_42 : decode c_MD_isUnseen 42 = .ok (.iinc 4 1, 3) := by decide +kernel
theorem d_MD_isUnseen_45 : decode c_MD_isUnseen 45 = .ok (.goto (-35), 3) := by decide +kernel
theorem d_MD_isUnseen_48 : decode c_MD_isUnseen 48 = .ok (.bipush 70, 2) := by decide +kernel
theorem d_MD_isUnseen_50 : decode c_MD_isUnseen 50 = .ok (.iload_n 1, 1) := by decide +kernel
theorem d_MD_isUnseen_51 : decode c_MD_isUnseen 51 = .ok (.imul, 1) := by decide +kernel
theorem d_MD_isUnseen_52 : decode c_MD_isUnseen 52 = .ok (.istore 4, 2) := by decide +kernel
theorem d_MD_isUnseen_54 : decode c_MD_isUnseen 54 = .ok (.iload 4, 2) := by decide +kernel
theorem d_MD_isUnseen_56 : decode c_MD_isUnseen 56 = .ok (.bipush 70, 2) := by decide +kernel
theorem d_MD_isUnseen_58 : decode c_MD_isUnseen 58 = .ok (.iload_n 1, 1) := by decide +kernel
theorem d_MD_isUnseen_59 : decode c_MD_isUnseen 59 = .ok (.imul, 1) := by decide +kernel
theorem d_MD_isUnseen_60 : decode c_MD_isUnseen 60 = .ok (.bipush 70, 2) := by decide +kernel
theorem d_MD_isUnseen_62 : decode c_MD_isUnseen 62 = .ok (.iadd, 1) := by decide +kernel
theorem d_MD_isUnseen_63 : decode c_MD_isUnseen 63 = .ok (.iconst 4, 1) := by decide +kernel
theorem d_MD_isUnseen_64 : decode c_MD_isUnseen 64 = .ok (.isub, 1) := by decide +kernel
theorem d_MD_isUnseen_65 : decode c_MD_isUnseen 65 = .ok (.if_icmp .ge 59, 3) := by decide +kernel
theorem d_MD_isUnseen_68 : decode c_MD_isUnseen 68 = .ok (.iload_n 2, 1) := by decide +kernel
theorem d_MD_isUnseen_69 : decode c_MD_isUnseen 69 = .ok (.aload_n 0, 1) := by decide +kernel
theorem d_MD_isUnseen_70 : decode c_MD_isUnseen 70 = .ok (.getfield 24, 3) := by decide +kernel
theorem d_MD_isUnseen_73 : decode c_MD_isUnseen 73 = .ok (.iload 4, 2) := by decide +kernel
theorem d_MD_isUnseen_75 : decode c_MD_isUnseen 75 = .ok (.baload, 1) := by decide +kernel
theorem d_MD_isUnseen_76 : decode c_MD_isUnseen 76 = .ok (.sipush 255, 3) := by decide +kernel
theorem d_MD_isUnseen_79 : decode c_MD_isUnseen 79 = .ok (.iand, 1) := by decide +kernel
theorem d_MD_isUnseen_80 : decode c_MD_isUnseen 80 = .ok (.ixor, 1) := by decide +kernel
theorem d_MD_isUnseen_81 : decode c_MD_isUnseen 81 = .ok (.istore_n 2, 1) := by decide +kernel
theorem d_MD_isUnseen_82 : decode c_MD_isUnseen 82 = .ok (.iconst 0, 1) := by decide +kernel
theorem d_MD_isUnseen_83 : decode c_MD_isUnseen 83 = .ok (.istore 5, 2) := by decide +kernel
theorem d_MD_isUnseen_85 : decode c_MD_isUnseen 85 = .ok (.iload 5, 2) := by decide +kernel
theorem d_MD_isUnseen_87 : decode c_MD_isUnseen 87 = .ok (.bipush 8, 2) := by decide +kernel
theorem d_MD_isUnseen_89 : decode c_MD_isUnseen 89 = .ok (.if_icmp .ge 29, 3) := by decide +kernel
theorem d_MD_isUnseen_92 : decode c_MD_isUnseen 92 = .ok (.iload_n 2, 1) := by decide +kernel
theorem d_MD_isUnseen_93 : decode c_MD_isUnseen 93 = .ok (.iconst 1, 1) := by decide +kernel
theorem d_MD_isUnseen_94 : decode c_MD_isUnseen 94 = .ok (.iand, 1) := by decide +kernel
theorem d_MD_isUnseen_95 : decode c_MD_isUnseen 95 = .ok (.iconst 1, 1) := by decide +kernel
theorem d_MD_isUnseen_96 : decode c_MD_isUnseen 96 = .ok (.if_icmp .ne 12, 3) := by decide +kernel
theorem d_MD_isUnseen_99 : decode c_MD_isUnseen 99 = .ok (.iload_n 2, 1) := by decide +kernel
theorem d_MD_isUnseen_100 : decode c_MD_isUnseen 100 = .ok (.iconst 1, 1) := by decide +kernel
theorem d_MD_isUnseen_101 : decode c_MD_isUnseen 101 = .ok (.iushr, 1) := by decide +kernel
theorem d_MD_isUnseen_102 : decode c_MD_isUnseen 102 = .ok (.ldc 140, 2) := by decide +kernel
theorem d_MD_isUnseen_104 : decode c_MD_isUnseen 104 = .ok (.ixor, 1) := by decide +kernel
theorem d_MD_isUnseen_105 : decode c_MD_isUnseen 105 = .ok (.goto 6, 3) := by decide +kernel
theorem d_MD_isUnseen_108 : decode c_MD_isUnseen 108 = .ok (.iload_n 2, 1) := by decide +kernel
theorem d_MD_isUnseen_109 : decode c_MD_isUnseen 109 = .ok (.iconst 1, 1) := by decide +kernel
theorem d_MD_isUnseen_110 : decode c_MD_isUnseen 110 = .ok (.iushr, 1) := by decide +kernel
theorem d_MD_isUnseen_111 : decode c_MD_isUnseen 111 = .ok (.istore_n 2, 1) := by decide +kernel
theorem d_MD_isUnseen_112 : decode c_MD_isUnseen 112 = .ok (.iinc 5 1, 3) := by decide +kernel
theorem d_MD_isUnseen_115 : decode c_MD_isUnseen 115 = .ok (.goto (-30), 3) := by decide +kernel
theorem d_MD_isUnseen_118 : decode c_MD_isUnseen 118 = .ok (.iinc 4 1, 3) := by decide +kernel
theorem d_MD_isUnseen_121 : decode c_MD_isUnseen 121 = .ok (.goto (-67), 3) := by decide +kernel
theorem d_MD_isUnseen_124 : decode c_MD_isUnseen 124 = .ok (.iconst 0, 1) := by decide +kernel
theorem d_MD_isUnseen_125 : decode c_MD_isUnseen 125 = .ok (.istore 4, 2) := by decide +kernel
theorem d_MD_isUnseen_127 : decode c_MD_isUnseen 127 = .ok (.iload 4, 2) := by decide +kernel
theorem d_MD_isUnseen_129 : decode c_MD_isUnseen 129 = .ok (.iconst 4, 1) := by decide +kernel
theorem d_MD_isUnseen_130 : decode c_MD_isUnseen 130 = .ok (.if_icmp .ge 39, 3) := by decide +kernel
theorem d_MD_isUnseen_133 : decode c_MD_isUnseen 133 = .ok (.iload_n 2, 1) := by decide +kernel
theorem d_MD_isUnseen_134 : decode c_MD_isUnseen 134 = .ok (.aload_n 0, 1) := by decide +kernel
theorem d_MD_isUnseen_135 : decode c_MD_isUnseen 135 = .ok (.getfield 24, 3) := by decide +kernel
theorem d_MD_isUnseen_138 : decode c_MD_isUnseen 138 = .ok (.bipush 70, 2) := by decide +kernel
theorem d_MD_isUnseen_140 : decode c_MD_isUnseen 140 = .ok (.iload_n 1, 1) := by decide +kernel
theorem d_MD_isUnseen_141 : decode c_MD_isUnseen 141 = .ok (.imul, 1) := by decide +kernel
theorem d_MD_isUnseen_142 : decode c_MD_isUnseen 142 = .ok (.bipush 70, 2) := by decide +kernel
theorem d_MD_isUnseen_144 : decode c_MD_isUnseen 144 = .ok (.iadd, 1) := by decide +kernel
theorem d_MD_isUnseen_145 : decode c_MD_isUnseen 145 = .ok (.iconst 4, 1) := by decide +kernel
theorem d_MD_isUnseen_146 : decode c_MD_isUnseen 146 = .ok (.isub, 1) := by decide +kernel
theorem d_MD_isUnseen_147 : decode c_MD_isUnseen 147 = .ok (.iload 4, 2) := by decide +kernel
theorem d_MD_isUnseen_149 : decode c_MD_isUnseen 149 = .ok (.iadd, 1) := by decide +kernel
theorem d_MD_isUnseen_150 : decode c_MD_isUnseen 150 = .ok (.baload, 1) := by decide +kernel
theorem d_MD_isUnseen_151 : decode c_MD_isUnseen 151 = .ok (.sipush 255, 3) := by decide +kernel
theorem d_MD_isUnseen_154 : decode c_MD_isUnseen 154 = .ok (.iand, 1) := by decide +kernel
theorem d_MD_isUnseen_155 : decode c_MD_isUnseen 155 = .ok (.bipush 8, 2) := by decide +kernel
theorem d_MD_isUnseen_157 : decode c_MD_isUnseen 157 = .ok (.iload 4, 2) := by decide +kernel
theorem d_MD_isUnseen_159 : decode c_MD_isUnseen 159 = .ok (.imul, 1) := by decide +kernel
theorem d_MD_isUnseen_160 : decode c_MD_isUnseen 160 = .ok (.ishl, 1) := by decide +kernel
theorem d_MD_isUnseen_161 : decode c_MD_isUnseen 161 = .ok (.ixor, 1) := by decide +kernel
theorem d_MD_isUnseen_162 : decode c_MD_isUnseen 162 = .ok (.istore_n 2, 1) := by decide +kernel
theorem d_MD_isUnseen_163 : decode c_MD_isUnseen 163 = .ok (.iinc 4 1, 3) := by decide +kernel
theorem d_MD_isUnseen_166 : decode c_MD_isUnseen 166 = .ok (.goto (-39), 3) := by decide +kernel
theorem d_MD_isUnseen_169 : decode c_MD_isUnseen 169 = .ok (.iload_n 3, 1) := by decide +kernel
theorem d_MD_isUnseen_170 : decode c_MD_isUnseen 170 = .ok (.ifCond .eq 11, 3) := by decide +kernel
theorem d_MD_isUnseen_173 : decode c_MD_isUnseen 173 = .ok (.iload_n 2, 1) := by decide +kernel
theorem d_MD_isUnseen_174 : decode c_MD_isUnseen 174 = .ok (.ifCond .ne 7, 3) := by decide +kernel
theorem d_MD_isUnseen_177 : decode c_MD_isUnseen 177 = .ok (.iconst 1, 1) := by decide +kernel
theorem d_MD_isUnseen_178 : decode c_MD_isUnseen 178 = .ok (.goto 4, 3) := by decide +kernel
theorem d_MD_isUnseen_181 : decode c_MD_isUnseen 181 = .ok (.iconst 0, 1) := by decide +kernel
theorem d_MD_isUnseen_182 : decode c_MD_isUnseen 182 = .ok (.ireturn, 1) := by decide +kernel
abbrev c_MD_rebuild : ByteArray := prog_7_method_31_code
abbrev y_MD_rebuild : MethodName := ⟨"StripeFieldModel", "rebuild", "()I"⟩
theorem d_MD_rebuild_0 : decode c_MD_rebuild 0 = .ok (.aload_n 0, 1) := by decide +kernel
theorem d_MD_rebuild_1 : decode c_MD_rebuild 1 = .ok (.aload_n 0, 1) := by decide +kernel
theorem d_MD_rebuild_2 : decode c_MD_rebuild 2 = .ok (.getfield 31, 3) := by decide +kernel
theorem d_MD_rebuild_5 : decode c_MD_rebuild 5 = .ok (.ifCond .ne 7, 3) := by decide +kernel
theorem d_MD_rebuild_8 : decode c_MD_rebuild 8 = .ok (.iconst 1, 1) := by decide +kernel
theorem d_MD_rebuild_9 : decode c_MD_rebuild 9 = .ok (.goto 4, 3) := by decide +kernel
theorem d_MD_rebuild_12 : decode c_MD_rebuild 12 = .ok (.iconst 0, 1) := by decide +kernel
theorem d_MD_rebuild_13 : decode c_MD_rebuild 13 = .ok (.iconst 1, 1) := by decide +kernel
theorem d_MD_rebuild_14 : decode c_MD_rebuild 14 = .ok (.invokevirtual 100, 3) := by decide +kernel
theorem d_MD_rebuild_17 : decode c_MD_rebuild 17 = .ok (.ifCond .eq 5, 3) := by decide +kernel
theorem d_MD_rebuild_20 : decode c_MD_rebuild 20 = .ok (.iconst 0, 1) := by decide +kernel
theorem d_MD_rebuild_21 : decode c_MD_rebuild 21 = .ok (.ireturn, 1) := by decide +kernel
theorem d_MD_rebuild_22 : decode c_MD_rebuild 22 = .ok (.iconst 0, 1) := by decide +kernel
theorem d_MD_rebuild_23 : decode c_MD_rebuild 23 = .ok (.istore_n 1, 1) := by decide +kernel
theorem d_MD_rebuild_24 : decode c_MD_rebuild 24 = .ok (.iload_n 1, 1) := by decide +kernel
theorem d_MD_rebuild_25 : decode c_MD_rebuild 25 = .ok (.aload_n 0, 1) := by decide +kernel
theorem d_MD_rebuild_26 : decode c_MD_rebuild 26 = .ok (.getfield 58, 3) := by decide +kernel
theorem d_MD_rebuild_29 : decode c_MD_rebuild 29 = .ok (.if_icmp .ge 94, 3) := by decide +kernel
theorem d_MD_rebuild_32 : decode c_MD_rebuild 32 = .ok (.aload_n 0, 1) := by decide +kernel
theorem d_MD_rebuild_33 : decode c_MD_rebuild 33 = .ok (.iload_n 1, 1) := by decide +kernel
theorem d_MD_rebuild_34 : decode c_MD_rebuild 34 = .ok (.invokevirtual 148, 3) := by decide +kernel
theorem d_MD_rebuild_37 : decode c_MD_rebuild 37 = .ok (.istore_n 2, 1) := by decide +kernel
theorem d_MD_rebuild_38 : decode c_MD_rebuild 38 = .ok (.iconst 0, 1) := by decide +kernel
theorem d_MD_rebuild_39 : decode c_MD_rebuild 39 = .ok (.istore_n 3, 1) := by decide +kernel
theorem d_MD_rebuild_40 : decode c_MD_rebuild 40 = .ok (.iload_n 3, 1) := by decide +kernel
theorem d_MD_rebuild_41 : decode c_MD_rebuild 41 = .ok (.aload_n 0, 1) := by decide +kernel
theorem d_MD_rebuild_42 : decode c_MD_rebuild 42 = .ok (.getfield 55, 3) := by decide +kernel
theorem d_MD_rebuild_45 : decode c_MD_rebuild 45 = .ok (.aload_n 0, 1) := by decide +kernel
theorem d_MD_rebuild_46 : decode c_MD_rebuild 46 = .ok (.getfield 61, 3) := by decide +kernel
theorem d_MD_rebuild_49 : decode c_MD_rebuild 49 = .ok (.imul, 1) := by decide +kernel
theorem d_MD_rebuild_50 : decode c_MD_rebuild 50 = .ok (.if_icmp .ge 67, 3) := by decide +kernel
theorem d_MD_rebuild_53 : decode c_MD_rebuild 53 = .ok (.iload_n 2, 1) := by decide +kernel
theorem d_MD_rebuild_54 : decode c_MD_rebuild 54 = .ok (.ifCond .lt 63, 3) := by decide +kernel
theorem d_MD_rebuild_57 : decode c_MD_rebuild 57 = .ok (.aload_n 0, 1) := by decide +kernel
theorem d_MD_rebuild_58 : decode c_MD_rebuild 58 = .ok (.iload_n 1, 1) := by decide +kernel
theorem d_MD_rebuild_59 : decode c_MD_rebuild 59 = .ok (.iload_n 3, 1) := by decide +kernel
theorem d_MD_rebuild_60 : decode c_MD_rebuild 60 = .ok (.invokevirtual 84, 3) := by decide +kernel
theorem d_MD_rebuild_63 : decode c_MD_rebuild 63 = .ok (.ifCond .ge 48, 3) := by decide +kernel
theorem d_MD_rebuild_66 : decode c_MD_rebuild 66 = .ok (.aload_n 0, 1) := by decide +kernel
theorem d_MD_rebuild_67 : decode c_MD_rebuild 67 = .ok (.getfield 13, 3) := by decide +kernel
theorem d_MD_rebuild_70 : decode c_MD_rebuild 70 = .ok (.aload_n 0, 1) := by decide +kernel
theorem d_MD_rebuild_71 : decode c_MD_rebuild 71 = .ok (.iload_n 1, 1) := by decide +kernel
theorem d_MD_rebuild_72 : decode c_MD_rebuild 72 = .ok (.iload_n 3, 1) := by decide +kernel
theorem d_MD_rebuild_73 : decode c_MD_rebuild 73 = .ok (.invokevirtual 71, 3) := by decide +kernel
theorem d_MD_rebuild_76 : decode c_MD_rebuild 76 = .ok (.baload, 1) := by decide +kernel
theorem d_MD_rebuild_77 : decode c_MD_rebuild 77 = .ok (.ifCond .eq 6, 3) := by decide +kernel
theorem d_MD_rebuild_80 : decode c_MD_rebuild 80 = .ok (.goto 31, 3) := by decide +kernel
theorem d_MD_rebuild_83 : decode c_MD_rebuild 83 = .ok (.aload_n 0, 1) := by decide +kernel
theorem d_MD_rebuild_84 : decode c_MD_rebuild 84 = .ok (.iload_n 2, 1) := by decide +kernel
theorem d_MD_rebuild_85 : decode c_MD_rebuild 85 = .ok (.iload_n 1, 1) := by decide +kernel
theorem d_MD_rebuild_86 : decode c_MD_rebuild 86 = .ok (.iload_n 3, 1) := by decide +kernel
theorem d_MD_rebuild_87 : decode c_MD_rebuild 87 = .ok (.iconst 1, 1) := by decide +kernel
theorem d_MD_rebuild_88 : decode c_MD_rebuild 88 = .ok (.iadd, 1) := by decide +kernel
theorem d_MD_rebuild_89 : decode c_MD_rebuild 89 = .ok (.invokevirtual 116, 3) := by decide +kernel
theorem d_MD_rebuild_92 : decode c_MD_rebuild 92 = .ok (.ifCond .ne 5, 3) := by decide +kernel
theorem d_MD_rebuild_95 : decode c_MD_rebuild 95 = .ok (.iconst (-1), 1) := by decide +kernel
theorem d_MD_rebuild_96 : decode c_MD_rebuild 96 = .ok (.ireturn, 1) := by decide +kernel
theorem d_MD_rebuild_97 : decode c_MD_rebuild 97 = .ok (.aload_n 0, 1) := by decide +kernel
theorem d_MD_rebuild_98 : decode c_MD_rebuild 98 = .ok (.getfield 28, 3) := by decide +kernel
theorem d_MD_rebuild_101 : decode c_MD_rebuild 101 = .ok (.bipush 16, 2) := by decide +kernel
theorem d_MD_rebuild_103 : decode c_MD_rebuild 103 = .ok (.iload_n 1, 1) := by decide +kernel
theorem d_MD_rebuild_104 : decode c_MD_rebuild 104 = .ok (.imul, 1) := by decide +kernel
theorem d_MD_rebuild_105 : decode c_MD_rebuild 105 = .ok (.iload_n 3, 1) := by decide +kernel
theorem d_MD_rebuild_106 : decode c_MD_rebuild 106 = .ok (.iadd, 1) := by decide +kernel
theorem d_MD_rebuild_107 : decode c_MD_rebuild 107 = .ok (.iload_n 2, 1) := by decide +kernel
theorem d_MD_rebuild_108 : decode c_MD_rebuild 108 = .ok (.iastore, 1) := by decide +kernel
theorem d_MD_rebuild_109 : decode c_MD_rebuild 109 = .ok (.iconst 1, 1) := by decide +kernel
theorem d_MD_rebuild_110 : decode c_MD_rebuild 110 = .ok (.ireturn, 1) := by decide +kernel
theorem d_MD_rebuild_111 : decode c_MD_rebuild 111 = .ok (.iinc 3 1, 3) := by decide +kernel
theorem d_MD_rebuild_114 : decode c_MD_rebuild 114 = .ok (.goto (-74), 3) := by decide +kernel
theorem d_MD_rebuild_117 : decode c_MD_rebuild 117 = .ok (.iinc 1 1, 3) := by decide +kernel
theorem d_MD_rebuild_120 : decode c_MD_rebuild 120 = .ok (.goto (-96), 3) := by decide +kernel
theorem d_MD_rebuild_123 : decode c_MD_rebuild 123 = .ok (.iconst 0, 1) := by decide +kernel
theorem d_MD_rebuild_124 : decode c_MD_rebuild 124 = .ok (.ireturn, 1) := by decide +kernel
abbrev c_MD_freeSpare : ByteArray := prog_7_method_14_code
abbrev y_MD_freeSpare : MethodName := ⟨"StripeFieldModel", "freeSpare", "(I)I"⟩
theorem d_MD_freeSpare_0 : decode c_MD_freeSpare 0 = .ok (.aload_n 0, 1) := by decide +kernel
theorem d_MD_freeSpare_1 : decode c_MD_freeSpare 1 = .ok (.getfield 55, 3) := by decide +kernel
theorem d_MD_freeSpare_4 : decode c_MD_freeSpare 4 = .ok (.aload_n 0, 1) := by decide +kernel
theorem d_MD_freeSpare_5 : decode c_MD_freeSpare 5 = .ok (.getfield 61, 3) := by decide +kernel
theorem d_MD_freeSpare_8 : decode c_MD_freeSpare 8 = .ok (.imul, 1) := by decide +kernel
theorem d_MD_freeSpare_9 : decode c_MD_freeSpare 9 = .ok (.istore_n 2, 1) := by decide +kernel
theorem d_MD_freeSpare_10 : decode c_MD_freeSpare 10 = .ok (.iload_n 2, 1) := by decide +kernel
theorem d_MD_freeSpare_11 : decode c_MD_freeSpare 11 = .ok (.aload_n 0, 1) := by decide +kernel
theorem d_MD_freeSpare_12 : decode c_MD_freeSpare 12 = .ok (.getfield 52, 3) := by decide +kernel
theorem d_MD_freeSpare_15 : decode c_MD_freeSpare 15 = .ok (.if_icmp .ge 44, 3) := by decide +kernel
theorem d_MD_freeSpare_18 : decode c_MD_freeSpare 18 = .ok (.aload_n 0, 1) := by decide +kernel
theorem d_MD_freeSpare_19 : decode c_MD_freeSpare 19 = .ok (.getfield 13, 3) := by decide +kernel
theorem d_MD_freeSpare_22 : decode c_MD_freeSpare 22 = .ok (.aload_n 0, 1) := by decide +kernel
theorem d_MD_freeSpare_23 : decode c_MD_freeSpare 23 = .ok (.iload_n 1, 1) := by decide +kernel
theorem d_MD_freeSpare_24 : decode c_MD_freeSpare 24 = .ok (.iload_n 2, 1) := by decide +kernel
theorem d_MD_freeSpare_25 : decode c_MD_freeSpare 25 = .ok (.invokevirtual 71, 3) := by decide +kernel
theorem d_MD_freeSpare_28 : decode c_MD_freeSpare 28 = .ok (.baload, 1) := by decide +kernel
theorem d_MD_freeSpare_29 : decode c_MD_freeSpare 29 = .ok (.ifCond .eq 24, 3) := by decide +kernel
theorem d_MD_freeSpare_32 : decode c_MD_freeSpare 32 = .ok (.aload_n 0, 1) := by decide +kernel
theorem d_MD_freeSpare_33 : decode c_MD_freeSpare 33 = .ok (.iload_n 1, 1) := by decide +kernel
theorem d_MD_freeSpare_34 : decode c_MD_freeSpare 34 = .ok (.aload_n 0, 1) := by decide +kernel
theorem d_MD_freeSpare_35 : decode c_MD_freeSpare 35 = .ok (.iload_n 1, 1) := by decide +kernel
theorem d_MD_freeSpare_36 : decode c_MD_freeSpare 36 = .ok (.iload_n 2, 1) := by decide +kernel
theorem d_MD_freeSpare_37 : decode c_MD_freeSpare 37 = .ok (.invokevirtual 71, 3) := by decide +kernel
theorem d_MD_freeSpare_40 : decode c_MD_freeSpare 40 = .ok (.invokevirtual 94, 3) := by decide +kernel
theorem d_MD_freeSpare_43 : decode c_MD_freeSpare 43 = .ok (.ifCond .ge 10, 3) := by decide +kernel
theorem d_MD_freeSpare_46 : decode c_MD_freeSpare 46 = .ok (.aload_n 0, 1) := by decide +kernel
theorem d_MD_freeSpare_47 : decode c_MD_freeSpare 47 = .ok (.iload_n 1, 1) := by decide +kernel
theorem d_MD_freeSpare_48 : decode c_MD_freeSpare 48 = .ok (.iload_n 2, 1) := by decide +kernel
theorem d_MD_freeSpare_49 : decode c_MD_freeSpare 49 = .ok (.invokevirtual 71, 3) := by decide +kernel
theorem d_MD_freeSpare_52 : decode c_MD_freeSpare 52 = .ok (.ireturn, 1) := by decide +kernel
theorem d_MD_freeSpare_53 : decode c_MD_freeSpare 53 = .ok (.iinc 2 1, 3) := by decide +kernel
theorem d_MD_freeSpare_56 : decode c_MD_freeSpare 56 = .ok (.goto (-46), 3) := by decide +kernel
theorem d_MD_freeSpare_59 : decode c_MD_freeSpare 59 = .ok (.iconst (-1), 1) := by decide +kernel
theorem d_MD_freeSpare_60 : decode c_MD_freeSpare 60 = .ok (.ireturn, 1) := by decide +kernel
abbrev c_MD_copyBack : ByteArray := prog_7_method_32_code
abbrev y_MD_copyBack : MethodName := ⟨"StripeFieldModel", "copyBack", "()I"⟩
theorem d_MD_copyBack_0 : decode c_MD_copyBack 0 = .ok (.aload_n 0, 1) := by decide +kernel
theorem d_MD_copyBack_1 : decode c_MD_copyBack 1 = .ok (.aload_n 0, 1) := by decide +kernel
theorem d_MD_copyBack_2 : decode c_MD_copyBack 2 = .ok (.getfield 31, 3) := by decide +kernel
theorem d_MD_copyBack_5 : decode c_MD_copyBack 5 = .ok (.ifCond .ne 7, 3) := by decide +kernel
theorem d_MD_copyBack_8 : decode c_MD_copyBack 8 = .ok (.iconst 1, 1) := by decide +kernel
theorem d_MD_copyBack_9 : decode c_MD_copyBack 9 = .ok (.goto 4, 3) := by decide +kernel
theorem d_MD_copyBack_12 : decode c_MD_copyBack 12 = .ok (.iconst 0, 1) := by decide +kernel
theorem d_MD_copyBack_13 : decode c_MD_copyBack 13 = .ok (.iconst 1, 1) := by decide +kernel
theorem d_MD_copyBack_14 : decode c_MD_copyBack 14 = .ok (.invokevirtual 100, 3) := by decide +kernel
theorem d_MD_copyBack_17 : decode c_MD_copyBack 17 = .ok (.ifCond .eq 5, 3) := by decide +kernel
theorem d_MD_copyBack_20 : decode c_MD_copyBack 20 = .ok (.iconst 0, 1) := by decide +kernel
theorem d_MD_copyBack_21 : decode c_MD_copyBack 21 = .ok (.ireturn, 1) := by decide +kernel
theorem d_MD_copyBack_22 : decode c_MD_copyBack 22 = .ok (.iconst 0, 1) := by decide +kernel
theorem d_MD_copyBack_23 : decode c_MD_copyBack 23 = .ok (.istore_n 1, 1) := by decide +kernel
theorem d_MD_copyBack_24 : decode c_MD_copyBack 24 = .ok (.iload_n 1, 1) := by decide +kernel
theorem d_MD_copyBack_25 : decode c_MD_copyBack 25 = .ok (.aload_n 0, 1) := by decide +kernel
theorem d_MD_copyBack_26 : decode c_MD_copyBack 26 = .ok (.getfield 58, 3) := by decide +kernel
theorem d_MD_copyBack_29 : decode c_MD_copyBack 29 = .ok (.if_icmp .ge 118, 3) := by decide +kernel
theorem d_MD_copyBack_32 : decode c_MD_copyBack 32 = .ok (.iconst 0, 1) := by decide +kernel
theorem d_MD_copyBack_33 : decode c_MD_copyBack 33 = .ok (.istore_n 2, 1) := by decide +kernel
theorem d_MD_copyBack_34 : decode c_MD_copyBack 34 = .ok (.iload_n 2, 1) := by decide +kernel
theorem d_MD_copyBack_35 : decode c_MD_copyBack 35 = .ok (.aload_n 0, 1) := by decide +kernel
theorem d_MD_copyBack_36 : decode c_MD_copyBack 36 = .ok (.getfield 55, 3) := by decide +kernel
theorem d_MD_copyBack_39 : decode c_MD_copyBack 39 = .ok (.aload_n 0, 1) := by decide +kernel
theorem d_MD_copyBack_40 : decode c_MD_copyBack 40 = .ok (.getfield 61, 3) := by decide +kernel
theorem d_MD_copyBack_43 : decode c_MD_copyBack 43 = .ok (.imul, 1) := by decide +kernel
theorem d_MD_copyBack_44 : decode c_MD_copyBack 44 = .ok (.if_icmp .ge 97, 3) := by decide +kernel
theorem d_MD_copyBack_47 : decode c_MD_copyBack 47 = .ok (.aload_n 0, 1) := by decide +kernel
theorem d_MD_copyBack_48 : decode c_MD_copyBack 48 = .ok (.iload_n 1, 1) := by decide +kernel
theorem d_MD_copyBack_49 : decode c_MD_copyBack 49 = .ok (.iload_n 2, 1) := by decide +kernel
theorem d_MD_copyBack_50 : decode c_MD_copyBack 50 = .ok (.invokevirtual 71, 3) := by decide +kernel
theorem d_MD_copyBack_53 : decode c_MD_copyBack 53 = .ok (.istore_n 3, 1) := by decide +kernel
theorem d_MD_copyBack_54 : decode c_MD_copyBack 54 = .ok (.aload_n 0, 1) := by decide +kernel
theorem d_MD_copyBack_55 : decode c_MD_copyBack 55 = .ok (.getfield 13, 3) := by decide +kernel
theorem d_MD_copyBack_58 : decode c_MD_copyBack 58 = .ok (.iload_n 3, 1) := by decide +kernel
theorem d_MD_copyBack_59 : decode c_MD_copyBack 59 = .ok (.baload, 1) := by decide +kernel
theorem d_MD_copyBack_60 : decode c_MD_copyBack 60 = .ok (.ifCond .eq 75, 3) := by decide +kernel
theorem d_MD_copyBack_63 : decode c_MD_copyBack 63 = .ok (.aload_n 0, 1) := by decide +kernel
theorem d_MD_copyBack_64 : decode c_MD_copyBack 64 = .ok (.getfield 17, 3) := by decide +kernel
theorem d_MD_copyBack_67 : decode c_MD_copyBack 67 = .ok (.iload_n 3, 1) := by decide +kernel
theorem d_MD_copyBack_68 : decode c_MD_copyBack 68 = .ok (.iload_n 1, 1) := by decide +kernel
theorem d_MD_copyBack_69 : decode c_MD_copyBack 69 = .ok (.invokestatic 67, 3) := by decide +kernel
theorem d_MD_copyBack_72 : decode c_MD_copyBack 72 = .ok (.baload, 1) := by decide +kernel
theorem d_MD_copyBack_73 : decode c_MD_copyBack 73 = .ok (.ifCond .eq 6, 3) := by decide +kernel
theorem d_MD_copyBack_76 : decode c_MD_copyBack 76 = .ok (.goto 59, 3) := by decide +kernel
theorem d_MD_copyBack_79 : decode c_MD_copyBack 79 = .ok (.aload_n 0, 1) := by decide +kernel
theorem d_MD_copyBack_80 : decode c_MD_copyBack 80 = .ok (.iload_n 1, 1) := by decide +kernel
theorem d_MD_copyBack_81 : decode c_MD_copyBack 81 = .ok (.iload_n 2, 1) := by decide +kernel
theorem d_MD_copyBack_82 : decode c_MD_copyBack 82 = .ok (.invokevirtual 84, 3) := by decide +kernel
theorem d_MD_copyBack_85 : decode c_MD_copyBack 85 = .ok (.istore 4, 2) := by decide +kernel
theorem d_MD_copyBack_87 : decode c_MD_copyBack 87 = .ok (.aload_n 0, 1) := by decide +kernel
theorem d_MD_copyBack_88 : decode c_MD_copyBack 88 = .ok (.iload_n 3, 1) := by decide +kernel
theorem d_MD_copyBack_89 : decode c_MD_copyBack 89 = .ok (.iload_n 1, 1) := by decide +kernel
theorem d_MD_copyBack_90 : decode c_MD_copyBack 90 = .ok (.iload_n 2, 1) := by decide +kernel
theorem d_MD_copyBack_91 : decode c_MD_copyBack 91 = .ok (.iconst 1, 1) := by decide +kernel
theorem d_MD_copyBack_92 : decode c_MD_copyBack 92 = .ok (.iadd, 1) := by decide +kernel
theorem d_MD_copyBack_93 : decode c_MD_copyBack 93 = .ok (.invokevirtual 116, 3) := by decide +kernel
theorem d_MD_copyBack_96 : decode c_MD_copyBack 96 = .ok (.ifCond .ne 5, 3) := by decide +kernel
theorem d_MD_copyBack_99 : decode c_MD_copyBack 99 = .ok (.iconst (-1), 1) := by decide +kernel
theorem d_MD_copyBack_100 : decode c_MD_copyBack 100 = .ok (.ireturn, 1) := by decide +kernel
theorem d_MD_copyBack_101 : decode c_MD_copyBack 101 = .ok (.aload_n 0, 1) := by decide +kernel
theorem d_MD_copyBack_102 : decode c_MD_copyBack 102 = .ok (.getfield 28, 3) := by decide +kernel
theorem d_MD_copyBack_105 : decode c_MD_copyBack 105 = .ok (.bipush 16, 2) := by decide +kernel
theorem d_MD_copyBack_107 : decode c_MD_copyBack 107 = .ok (.iload_n 1, 1) := by decide +kernel
theorem d_MD_copyBack_108 : decode c_MD_copyBack 108 = .ok (.imul, 1) := by decide +kernel
theorem d_MD_copyBack_109 : decode c_MD_copyBack 109 = .ok (.iload_n 2, 1) := by decide +kernel
theorem d_MD_copyBack_110 : decode c_MD_copyBack 110 = .ok (.iadd, 1) := by decide +kernel
theorem d_MD_copyBack_111 : decode c_MD_copyBack 111 = .ok (.iload_n 3, 1) := by decide +kernel
theorem d_MD_copyBack_112 : decode c_MD_copyBack 112 = .ok (.iastore, 1) := by decide +kernel
theorem d_MD_copyBack_113 : decode c_MD_copyBack 113 = .ok (.iload 4, 2) := by decide +kernel
theorem d_MD_copyBack_115 : decode c_MD_copyBack 115 = .ok (.ifCond .lt 14, 3) := by decide +kernel
theorem d_MD_copyBack_118 : decode c_MD_copyBack 118 = .ok (.aload_n 0, 1) := by decide +kernel
theorem d_MD_copyBack_119 : decode c_MD_copyBack 119 = .ok (.iload 4, 2) := by decide +kernel
theorem d_MD_copyBack_121 : decode c_MD_copyBack 121 = .ok (.iload_n 1, 1) := by decide +kernel
theorem d_MD_copyBack_122 : decode c_MD_copyBack 122 = .ok (.iconst 0, 1) := by decide +kernel
theorem d_MD_copyBack_123 : decode c_MD_copyBack 123 = .ok (.invokevirtual 116, 3) := by decide +kernel
theorem d_MD_copyBack_126 : decode c_MD_copyBack 126 = .ok (.ifCond .eq 7, 3) := by decide +kernel
theorem d_MD_copyBack_129 : decode c_MD_copyBack 129 = .ok (.iconst 1, 1) := by decide +kernel
theorem d_MD_copyBack_130 : decode c_MD_copyBack 130 = .ok (.goto 4, 3) := by decide +kernel
theorem d_MD_copyBack_133 : decode c_MD_copyBack 133 = .ok (.iconst (-1), 1) := by decide +kernel
theorem d_MD_copyBack_134 : decode c_MD_copyBack 134 = .ok (.ireturn, 1) := by decide +kernel
theorem d_MD_copyBack_135 : decode c_MD_copyBack 135 = .ok (.iinc 2 1, 3) := by decide +kernel
theorem d_MD_copyBack_138 : decode c_MD_copyBack 138 = .ok (.goto (-104), 3) := by decide +kernel
theorem d_MD_copyBack_141 : decode c_MD_copyBack 141 = .ok (.iinc 1 1, 3) := by decide +kernel
theorem d_MD_copyBack_144 : decode c_MD_copyBack 144 = .ok (.goto (-120), 3) := by decide +kernel
theorem d_MD_copyBack_147 : decode c_MD_copyBack 147 = .ok (.iconst 0, 1) := by decide +kernel
theorem d_MD_copyBack_148 : decode c_MD_copyBack 148 = .ok (.ireturn, 1) := by decide +kernel
abbrev c_MD_scrub : ByteArray := prog_7_method_33_code
abbrev y_MD_scrub : MethodName := ⟨"StripeFieldModel", "scrub", "()I"⟩
theorem d_MD_scrub_0 : decode c_MD_scrub 0 = .ok (.aload_n 0, 1) := by decide +kernel
theorem d_MD_scrub_1 : decode c_MD_scrub 1 = .ok (.aload_n 0, 1) := by decide +kernel
theorem d_MD_scrub_2 : decode c_MD_scrub 2 = .ok (.getfield 31, 3) := by decide +kernel
theorem d_MD_scrub_5 : decode c_MD_scrub 5 = .ok (.ifCond .ne 7, 3) := by decide +kernel
theorem d_MD_scrub_8 : decode c_MD_scrub 8 = .ok (.iconst 1, 1) := by decide +kernel
theorem d_MD_scrub_9 : decode c_MD_scrub 9 = .ok (.goto 4, 3) := by decide +kernel
theorem d_MD_scrub_12 : decode c_MD_scrub 12 = .ok (.iconst 0, 1) := by decide +kernel
theorem d_MD_scrub_13 : decode c_MD_scrub 13 = .ok (.iconst 1, 1) := by decide +kernel
theorem d_MD_scrub_14 : decode c_MD_scrub 14 = .ok (.invokevirtual 100, 3) := by decide +kernel
theorem d_MD_scrub_17 : decode c_MD_scrub 17 = .ok (.ifCond .eq 5, 3) := by decide +kernel
theorem d_MD_scrub_20 : decode c_MD_scrub 20 = .ok (.iconst 0, 1) := by decide +kernel
theorem d_MD_scrub_21 : decode c_MD_scrub 21 = .ok (.ireturn, 1) := by decide +kernel
theorem d_MD_scrub_22 : decode c_MD_scrub 22 = .ok (.aload_n 0, 1) := by decide +kernel
theorem d_MD_scrub_23 : decode c_MD_scrub 23 = .ok (.getfield 130, 3) := by decide +kernel
theorem d_MD_scrub_26 : decode c_MD_scrub 26 = .ok (.aload_n 0, 1) := by decide +kernel
theorem d_MD_scrub_27 : decode c_MD_scrub 27 = .ok (.getfield 61, 3) := by decide +kernel
theorem d_MD_scrub_30 : decode c_MD_scrub 30 = .ok (.idiv, 1) := by decide +kernel
theorem d_MD_scrub_31 : decode c_MD_scrub 31 = .ok (.istore_n 1, 1) := by decide +kernel
theorem d_MD_scrub_32 : decode c_MD_scrub 32 = .ok (.aload_n 0, 1) := by decide +kernel
theorem d_MD_scrub_33 : decode c_MD_scrub 33 = .ok (.getfield 55, 3) := by decide +kernel
theorem d_MD_scrub_36 : decode c_MD_scrub 36 = .ok (.aload_n 0, 1) := by decide +kernel
theorem d_MD_scrub_37 : decode c_MD_scrub 37 = .ok (.getfield 130, 3) := by decide +kernel
theorem d_MD_scrub_40 : decode c_MD_scrub 40 = .ok (.aload_n 0, 1) := by decide +kernel
theorem d_MD_scrub_41 : decode c_MD_scrub 41 = .ok (.getfield 61, 3) := by decide +kernel
theorem d_MD_scrub_44 : decode c_MD_scrub 44 = .ok (.irem, 1) := by decide +kernel
theorem d_MD_scrub_45 : decode c_MD_scrub 45 = .ok (.imul, 1) := by decide +kernel
theorem d_MD_scrub_46 : decode c_MD_scrub 46 = .ok (.istore_n 2, 1) := by decide +kernel
theorem d_MD_scrub_47 : decode c_MD_scrub 47 = .ok (.aload_n 0, 1) := by decide +kernel
theorem d_MD_scrub_48 : decode c_MD_scrub 48 = .ok (.aload_n 0, 1) := by decide +kernel
theorem d_MD_scrub_49 : decode c_MD_scrub 49 = .ok (.getfield 130, 3) := by decide +kernel
theorem d_MD_scrub_52 : decode c_MD_scrub 52 = .ok (.iconst 1, 1) := by decide +kernel
theorem d_MD_scrub_53 : decode c_MD_scrub 53 = .ok (.iadd, 1) := by decide +kernel
theorem d_MD_scrub_54 : decode c_MD_scrub 54 = .ok (.aload_n 0, 1) := by decide +kernel
theorem d_MD_scrub_55 : decode c_MD_scrub 55 = .ok (.getfield 58, 3) := by decide +kernel
theorem d_MD_scrub_58 : decode c_MD_scrub 58 = .ok (.aload_n 0, 1) := by decide +kernel
theorem d_MD_scrub_59 : decode c_MD_scrub 59 = .ok (.getfield 61, 3) := by decide +kernel
theorem d_MD_scrub_62 : decode c_MD_scrub 62 = .ok (.imul, 1) := by decide +kernel
theorem d_MD_scrub_63 : decode c_MD_scrub 63 = .ok (.irem, 1) := by decide +kernel
theorem d_MD_scrub_64 : decode c_MD_scrub 64 = .ok (.putfield 130, 3) := by decide +kernel
theorem d_MD_scrub_67 : decode c_MD_scrub 67 = .ok (.iload_n 2, 1) := by decide +kernel
theorem d_MD_scrub_68 : decode c_MD_scrub 68 = .ok (.istore_n 3, 1) := by decide +kernel
theorem d_MD_scrub_69 : decode c_MD_scrub 69 = .ok (.iload_n 3, 1) := by decide +kernel
theorem d_MD_scrub_70 : decode c_MD_scrub 70 = .ok (.iload_n 2, 1) := by decide +kernel
theorem d_MD_scrub_71 : decode c_MD_scrub 71 = .ok (.aload_n 0, 1) := by decide +kernel
theorem d_MD_scrub_72 : decode c_MD_scrub 72 = .ok (.getfield 55, 3) := by decide +kernel
theorem d_MD_scrub_75 : decode c_MD_scrub 75 = .ok (.iadd, 1) := by decide +kernel
theorem d_MD_scrub_76 : decode c_MD_scrub 76 = .ok (.if_icmp .ge 41, 3) := by decide +kernel
theorem d_MD_scrub_79 : decode c_MD_scrub 79 = .ok (.aload_n 0, 1) := by decide +kernel
theorem d_MD_scrub_80 : decode c_MD_scrub 80 = .ok (.iload_n 1, 1) := by decide +kernel
theorem d_MD_scrub_81 : decode c_MD_scrub 81 = .ok (.iload_n 3, 1) := by decide +kernel
theorem d_MD_scrub_82 : decode c_MD_scrub 82 = .ok (.invokevirtual 87, 3) := by decide +kernel
theorem d_MD_scrub_85 : decode c_MD_scrub 85 = .ok (.ifCond .eq 26, 3) := by decide +kernel
theorem d_MD_scrub_88 : decode c_MD_scrub 88 = .ok (.aload_n 0, 1) := by decide +kernel
theorem d_MD_scrub_89 : decode c_MD_scrub 89 = .ok (.aload_n 0, 1) := by decide +kernel
theorem d_MD_scrub_90 : decode c_MD_scrub 90 = .ok (.iload_n 1, 1) := by decide +kernel
theorem d_MD_scrub_91 : decode c_MD_scrub 91 = .ok (.iload_n 3, 1) := by decide +kernel
theorem d_MD_scrub_92 : decode c_MD_scrub 92 = .ok (.invokevirtual 84, 3) := by decide +kernel
theorem d_MD_scrub_95 : decode c_MD_scrub 95 = .ok (.iload_n 1, 1) := by decide +kernel
theorem d_MD_scrub_96 : decode c_MD_scrub 96 = .ok (.iload_n 3, 1) := by decide +kernel
theorem d_MD_scrub_97 : decode c_MD_scrub 97 = .ok (.iconst 1, 1) := by decide +kernel
theorem d_MD_scrub_98 : decode c_MD_scrub 98 = .ok (.iadd, 1) := by decide +kernel
theorem d_MD_scrub_99 : decode c_MD_scrub 99 = .ok (.invokevirtual 116, 3) := by decide +kernel
theorem d_MD_scrub_102 : decode c_MD_scrub 102 = .ok (.ifCond .eq 7, 3) := by decide +kernel
theorem d_MD_scrub_105 : decode c_MD_scrub 105 = .ok (.iconst 1, 1) := by decide +kernel
theorem d_MD_scrub_106 : decode c_MD_scrub 106 = .ok (.goto 4, 3) := by decide +kernel
theorem d_MD_scrub_109 : decode c_MD_scrub 109 = .ok (.iconst (-1), 1) := by decide +kernel
theorem d_MD_scrub_110 : decode c_MD_scrub 110 = .ok (.ireturn, 1) := by decide +kernel
theorem d_MD_scrub_111 : decode c_MD_scrub 111 = .ok (.iinc 3 1, 3) := by decide +kernel
theorem d_MD_scrub_114 : decode c_MD_scrub 114 = .ok (.goto (-45), 3) := by decide +kernel
theorem d_MD_scrub_117 : decode c_MD_scrub 117 = .ok (.iconst 0, 1) := by decide +kernel
theorem d_MD_scrub_118 : decode c_MD_scrub 118 = .ok (.ireturn, 1) := by decide +kernel
abbrev c_MD_look : ByteArray := prog_7_method_35_code
abbrev y_MD_look : MethodName := ⟨"StripeFieldModel", "look", "(I)I"⟩
theorem d_MD_look_0 : decode c_MD_look 0 = .ok (.aload_n 0, 1) := by decide +kernel
theorem d_MD_look_1 : decode c_MD_look 1 = .ok (.iload_n 1, 1) := by decide +kernel
theorem d_MD_look_2 : decode c_MD_look 2 = .ok (.ifCond .lt 9, 3) := by decide +kernel
theorem d_MD_look_5 : decode c_MD_look 5 = .ok (.iload_n 1, 1) := by decide +kernel
theorem d_MD_look_6 : decode c_MD_look 6 = .ok (.bipush 12, 2) := by decide +kernel
theorem d_MD_look_8 : decode c_MD_look 8 = .ok (.if_icmp .le 7, 3) := by decide +kernel
theorem d_MD_look_11 : decode c_MD_look 11 = .ok (.iconst 1, 1) := by decide +kernel
theorem d_MD_look_12 : decode c_MD_look 12 = .ok (.goto 4, 3) := by decide +kernel
theorem d_MD_look_15 : decode c_MD_look 15 = .ok (.iconst 0, 1) := by decide +kernel
theorem d_MD_look_16 : decode c_MD_look 16 = .ok (.iconst 1, 1) := by decide +kernel
theorem d_MD_look_17 : decode c_MD_look 17 = .ok (.invokevirtual 100, 3) := by decide +kernel
theorem d_MD_look_20 : decode c_MD_look 20 = .ok (.ifCond .eq 5, 3) := by decide +kernel
theorem d_MD_look_23 : decode c_MD_look 23 = .ok (.iconst 0, 1) := by decide +kernel
theorem d_MD_look_24 : decode c_MD_look 24 = .ok (.ireturn, 1) := by decide +kernel
theorem d_MD_look_25 : decode c_MD_look 25 = .ok (.iload_n 1, 1) := by decide +kernel
theorem d_MD_look_26 : decode c_MD_look 26 = .ok (.tableswitch 158 0 12 #[66, 79, 158, 158, 158, 84, 89, 91, 101, 106, 111, 116, 153], 66) := by decide +kernel
theorem d_MD_look_92 : decode c_MD_look 92 = .ok (.aload_n 0, 1) := by decide +kernel
theorem d_MD_look_93 : decode c_MD_look 93 = .ok (.getfield 31, 3) := by decide +kernel
theorem d_MD_look_96 : decode c_MD_look 96 = .ok (.ifCond .eq 7, 3) := by decide +kernel
theorem d_MD_look_99 : decode c_MD_look 99 = .ok (.iconst 1, 1) := by decide +kernel
theorem d_MD_look_100 : decode c_MD_look 100 = .ok (.goto 4, 3) := by decide +kernel
theorem d_MD_look_103 : decode c_MD_look 103 = .ok (.iconst 0, 1) := by decide +kernel
theorem d_MD_look_104 : decode c_MD_look 104 = .ok (.ireturn, 1) := by decide +kernel
theorem d_MD_look_105 : decode c_MD_look 105 = .ok (.aload_n 0, 1) := by decide +kernel
theorem d_MD_look_106 : decode c_MD_look 106 = .ok (.getfield 97, 3) := by decide +kernel
theorem d_MD_look_109 : decode c_MD_look 109 = .ok (.ireturn, 1) := by decide +kernel
theorem d_MD_look_110 : decode c_MD_look 110 = .ok (.aload_n 0, 1) := by decide +kernel
theorem d_MD_look_111 : decode c_MD_look 111 = .ok (.invokevirtual 109, 3) := by decide +kernel
theorem d_MD_look_114 : decode c_MD_look 114 = .ok (.ireturn, 1) := by decide +kernel
theorem d_MD_look_115 : decode c_MD_look 115 = .ok (.iconst 0, 1) := by decide +kernel
theorem d_MD_look_116 : decode c_MD_look 116 = .ok (.ireturn, 1) := by decide +kernel
theorem d_MD_look_117 : decode c_MD_look 117 = .ok (.aload_n 0, 1) := by decide +kernel
theorem d_MD_look_118 : decode c_MD_look 118 = .ok (.getfield 58, 3) := by decide +kernel
theorem d_MD_look_121 : decode c_MD_look 121 = .ok (.aload_n 0, 1) := by decide +kernel
theorem d_MD_look_122 : decode c_MD_look 122 = .ok (.getfield 61, 3) := by decide +kernel
theorem d_MD_look_125 : decode c_MD_look 125 = .ok (.imul, 1) := by decide +kernel
theorem d_MD_look_126 : decode c_MD_look 126 = .ok (.ireturn, 1) := by decide +kernel
theorem d_MD_look_127 : decode c_MD_look 127 = .ok (.aload_n 0, 1) := by decide +kernel
theorem d_MD_look_128 : decode c_MD_look 128 = .ok (.getfield 130, 3) := by decide +kernel
theorem d_MD_look_131 : decode c_MD_look 131 = .ok (.ireturn, 1) := by decide +kernel
theorem d_MD_look_132 : decode c_MD_look 132 = .ok (.aload_n 0, 1) := by decide +kernel
theorem d_MD_look_133 : decode c_MD_look 133 = .ok (.getfield 55, 3) := by decide +kernel
theorem d_MD_look_136 : decode c_MD_look 136 = .ok (.ireturn, 1) := by decide +kernel
theorem d_MD_look_137 : decode c_MD_look 137 = .ok (.aload_n 0, 1) := by decide +kernel
theorem d_MD_look_138 : decode c_MD_look 138 = .ok (.getfield 52, 3) := by decide +kernel
theorem d_MD_look_141 : decode c_MD_look 141 = .ok (.ireturn, 1) := by decide +kernel
theorem d_MD_look_142 : decode c_MD_look 142 = .ok (.iconst 0, 1) := by decide +kernel
theorem d_MD_look_143 : decode c_MD_look 143 = .ok (.istore_n 2, 1) := by decide +kernel
theorem d_MD_look_144 : decode c_MD_look 144 = .ok (.iconst 0, 1) := by decide +kernel
theorem d_MD_look_145 : decode c_MD_look 145 = .ok (.istore_n 3, 1) := by decide +kernel
theorem d_MD_look_146 : decode c_MD_look 146 = .ok (.iload_n 3, 1) := by decide +kernel
theorem d_MD_look_147 : decode c_MD_look 147 = .ok (.aload_n 0, 1) := by decide +kernel
theorem d_MD_look_148 : decode c_MD_look 148 = .ok (.getfield 52, 3) := by decide +kernel
theorem d_MD_look_151 : decode c_MD_look 151 = .ok (.if_icmp .ge 26, 3) := by decide +kernel
theorem d_MD_look_154 : decode c_MD_look 154 = .ok (.iload_n 2, 1) := by decide +kernel
theorem d_MD_look_155 : decode c_MD_look 155 = .ok (.aload_n 0, 1) := by decide +kernel
theorem d_MD_look_156 : decode c_MD_look 156 = .ok (.getfield 13, 3) := by decide +kernel
theorem d_MD_look_159 : decode c_MD_look 159 = .ok (.iload_n 3, 1) := by decide +kernel
theorem d_MD_look_160 : decode c_MD_look 160 = .ok (.baload, 1) := by decide +kernel
theorem d_MD_look_161 : decode c_MD_look 161 = .ok (.ifCond .eq 7, 3) := by decide +kernel
theorem d_MD_look_164 : decode c_MD_look 164 = .ok (.iconst 1, 1) := by decide +kernel
theorem d_MD_look_165 : decode c_MD_look 165 = .ok (.goto 4, 3) := by decide +kernel
theorem d_MD_look_168 : decode c_MD_look 168 = .ok (.iconst 0, 1) := by decide +kernel
theorem d_MD_look_169 : decode c_MD_look 169 = .ok (.iadd, 1) := by decide +kernel
theorem d_MD_look_170 : decode c_MD_look 170 = .ok (.istore_n 2, 1) := by decide +kernel
theorem d_MD_look_171 : decode c_MD_look 171 = .ok (.iinc 3 1, 3) := by decide +kernel
theorem d_MD_look_174 : decode c_MD_look 174 = .ok (.goto (-28), 3) := by decide +kernel
theorem d_MD_look_177 : decode c_MD_look 177 = .ok (.iload_n 2, 1) := by decide +kernel
theorem d_MD_look_178 : decode c_MD_look 178 = .ok (.ireturn, 1) := by decide +kernel
theorem d_MD_look_179 : decode c_MD_look 179 = .ok (.aload_n 0, 1) := by decide +kernel
theorem d_MD_look_180 : decode c_MD_look 180 = .ok (.getfield 104, 3) := by decide +kernel
theorem d_MD_look_183 : decode c_MD_look 183 = .ok (.ireturn, 1) := by decide +kernel
theorem d_MD_look_184 : decode c_MD_look 184 = .ok (.aload_n 0, 1) := by decide +kernel
theorem d_MD_look_185 : decode c_MD_look 185 = .ok (.iload_n 1, 1) := by decide +kernel
theorem d_MD_look_186 : decode c_MD_look 186 = .ok (.invokevirtual 152, 3) := by decide +kernel
theorem d_MD_look_189 : decode c_MD_look 189 = .ok (.ireturn, 1) := by decide +kernel
abbrev c_MD_count : ByteArray := prog_7_method_34_code
abbrev y_MD_count : MethodName := ⟨"StripeFieldModel", "count", "(I)I"⟩
theorem d_MD_count_0 : decode c_MD_count 0 = .ok (.iconst 0, 1) := by decide +kernel
theorem d_MD_count_1 : decode c_MD_count 1 = .ok (.istore_n 2, 1) := by decide +kernel
theorem d_MD_count_2 : decode c_MD_count 2 = .ok (.iconst 0, 1) := by decide +kernel
theorem d_MD_count_3 : decode c_MD_count 3 = .ok (.istore_n 3, 1) := by decide +kernel
theorem d_MD_count_4 : decode c_MD_count 4 = .ok (.iload_n 3, 1) := by decide +kernel
theorem d_MD_count_5 : decode c_MD_count 5 = .ok (.aload_n 0, 1) := by decide +kernel
theorem d_MD_count_6 : decode c_MD_count 6 = .ok (.getfield 58, 3) := by decide +kernel
theorem d_MD_count_9 : decode c_MD_count 9 = .ok (.if_icmp .ge 152, 3) := by decide +kernel
theorem d_MD_count_12 : decode c_MD_count 12 = .ok (.iconst 0, 1) := by decide +kernel
theorem d_MD_count_13 : decode c_MD_count 13 = .ok (.istore 4, 2) := by decide +kernel
theorem d_MD_count_15 : decode c_MD_count 15 = .ok (.iload 4, 2) := by decide +kernel
theorem d_MD_count_17 : decode c_MD_count 17 = .ok (.aload_n 0, 1) := by decide +kernel
theorem d_MD_count_18 : decode c_MD_count 18 = .ok (.getfield 52, 3) := by decide +kernel
theorem d_MD_count_21 : decode c_MD_count 21 = .ok (.if_icmp .ge 134, 3) := by decide +kernel
theorem d_MD_count_24 : decode c_MD_count 24 = .ok (.iload 4, 2) := by decide +kernel
theorem d_MD_count_26 : decode c_MD_count 26 = .ok (.aload_n 0, 1) := by decide +kernel
theorem d_MD_count_27 : decode c_MD_count 27 = .ok (.getfield 55, 3) := by decide +kernel
theorem d_MD_count_30 : decode c_MD_count 30 = .ok (.aload_n 0, 1) := by decide +kernel
theorem d_MD_count_31 : decode c_MD_count 31 = .ok (.getfield 61, 3) := by decide +kernel
theorem d_MD_count_34 : decode c_MD_count 34 = .ok (.imul, 1) := by decide +kernel
theorem d_MD_count_35 : decode c_MD_count 35 = .ok (.if_icmp .lt 7, 3) := by decide +kernel
theorem d_MD_count_38 : decode c_MD_count 38 = .ok (.iconst 1, 1) := by decide +kernel
theorem d_MD_count_39 : decode c_MD_count 39 = .ok (.goto 4, 3) := by decide +kernel
theorem d_MD_count_42 : decode c_MD_count 42 = .ok (.iconst 0, 1) := by decide +kernel
theorem d_MD_count_43 : decode c_MD_count 43 = .ok (.istore 5, 2) := by decide +kernel
theorem d_MD_count_45 : decode c_MD_count 45 = .ok (.iload_n 1, 1) := by decide +kernel
theorem d_MD_count_46 : decode c_MD_count 46 = .ok (.iconst 2, 1) := by decide +kernel
theorem d_MD_count_47 : decode c_MD_count 47 = .ok (.if_icmp .ne 26, 3) := by decide +kernel
theorem d_MD_count_50 : decode c_MD_count 50 = .ok (.iload_n 2, 1) := by decide +kernel
theorem d_MD_count_51 : decode c_MD_count 51 = .ok (.iload 5, 2) := by decide +kernel
theorem d_MD_count_53 : decode c_MD_count 53 = .ok (.ifCond .ne 17, 3) := by decide +kernel
theorem d_MD_count_56 : decode c_MD_count 56 = .ok (.aload_n 0, 1) := by decide +kernel
theorem d_MD_count_57 : decode c_MD_count 57 = .ok (.iload_n 3, 1) := by decide +kernel
theorem d_MD_count_58 : decode c_MD_count 58 = .ok (.iload 4, 2) := by decide +kernel
theorem d_MD_count_60 : decode c_MD_count 60 = .ok (.invokevirtual 84, 3) := by decide +kernel
theorem d_MD_count_63 : decode c_MD_count 63 = .ok (.ifCond .ge 7, 3) := by decide +kernel
theorem d_MD_count_66 : decode c_MD_count 66 = .ok (.iconst 1, 1) := by decide +kernel
theorem d_MD_count_67 : decode c_MD_count 67 = .ok (.goto 4, 3) := by decide +kernel
theorem d_MD_count_70 : decode c_MD_count 70 = .ok (.iconst 0, 1) := by decide +kernel
theorem d_MD_count_71 : decode c_MD_count 71 = .ok (.iadd, 1) := by decide +kernel
theorem d_MD_count_72 : decode c_MD_count 72 = .ok (.istore_n 2, 1) := by decide +kernel
theorem d_MD_count_73 : decode c_MD_count 73 = .ok (.iload_n 1, 1) := by decide +kernel
theorem d_MD_count_74 : decode c_MD_count 74 = .ok (.iconst 3, 1) := by decide +kernel
theorem d_MD_count_75 : decode c_MD_count 75 = .ok (.if_icmp .ne 26, 3) := by decide +kernel
theorem d_MD_count_78 : decode c_MD_count 78 = .ok (.iload_n 2, 1) := by decide +kernel
theorem d_MD_count_79 : decode c_MD_count 79 = .ok (.iload 5, 2) := by decide +kernel
theorem d_MD_count_81 : decode c_MD_count 81 = .ok (.ifCond .ne 17, 3) := by decide +kernel
theorem d_MD_count_84 : decode c_MD_count 84 = .ok (.aload_n 0, 1) := by decide +kernel
theorem d_MD_count_85 : decode c_MD_count 85 = .ok (.iload_n 3, 1) := by decide +kernel
theorem d_MD_count_86 : decode c_MD_count 86 = .ok (.iload 4, 2) := by decide +kernel
theorem d_MD_count_88 : decode c_MD_count 88 = .ok (.invokevirtual 87, 3) := by decide +kernel
theorem d_MD_count_91 : decode c_MD_count 91 = .ok (.ifCond .eq 7, 3) := by decide +kernel
theorem d_MD_count_94 : decode c_MD_count 94 = .ok (.iconst 1, 1) := by decide +kernel
theorem d_MD_count_95 : decode c_MD_count 95 = .ok (.goto 4, 3) := by decide +kernel
theorem d_MD_count_98 : decode c_MD_count 98 = .ok (.iconst 0, 1) := by decide +kernel
theorem d_MD_count_99 : decode c_MD_count 99 = .ok (.iadd, 1) := by decide +kernel
theorem d_MD_count_100 : decode c_MD_count 100 = .ok (.istore_n 2, 1) := by decide +kernel
theorem d_MD_count_101 : decode c_MD_count 101 = .ok (.iload_n 1, 1) := by decide +kernel
theorem d_MD_count_102 : decode c_MD_count 102 = .ok (.iconst 4, 1) := by decide +kernel
theorem d_MD_count_103 : decode c_MD_count 103 = .ok (.if_icmp .ne 46, 3) := by decide +kernel
theorem d_MD_count_106 : decode c_MD_count 106 = .ok (.iload_n 2, 1) := by decide +kernel
theorem d_MD_count_107 : decode c_MD_count 107 = .ok (.iload 5, 2) := by decide +kernel
theorem d_MD_count_109 : decode c_MD_count 109 = .ok (.ifCond .eq 37, 3) := by decide +kernel
theorem d_MD_count_112 : decode c_MD_count 112 = .ok (.aload_n 0, 1) := by decide +kernel
theorem d_MD_count_113 : decode c_MD_count 113 = .ok (.getfield 13, 3) := by decide +kernel
theorem d_MD_count_116 : decode c_MD_count 116 = .ok (.aload_n 0, 1) := by decide +kernel
theorem d_MD_count_117 : decode c_MD_count 117 = .ok (.iload_n 3, 1) := by decide +kernel
theorem d_MD_count_118 : decode c_MD_count 118 = .ok (.iload 4, 2) := by decide +kernel
theorem d_MD_count_120 : decode c_MD_count 120 = .ok (.invokevirtual 71, 3) := by decide +kernel
theorem d_MD_count_123 : decode c_MD_count 123 = .ok (.baload, 1) := by decide +kernel
theorem d_MD_count_124 : decode c_MD_count 124 = .ok (.ifCond .eq 22, 3) := by decide +kernel
theorem d_MD_count_127 : decode c_MD_count 127 = .ok (.aload_n 0, 1) := by decide +kernel
theorem d_MD_count_128 : decode c_MD_count 128 = .ok (.iload_n 3, 1) := by decide +kernel
theorem d_MD_count_129 : decode c_MD_count 129 = .ok (.aload_n 0, 1) := by decide +kernel
theorem d_MD_count_130 : decode c_MD_count 130 = .ok (.iload_n 3, 1) := by decide +kernel
theorem d_MD_count_131 : decode c_MD_count 131 = .ok (.iload 4, 2) := by decide +kernel
theorem d_MD_count_133 : decode c_MD_count 133 = .ok (.invokevirtual 71, 3) := by decide +kernel
theorem d_MD_count_136 : decode c_MD_count 136 = .ok (.invokevirtual 94, 3) := by decide +kernel
theorem d_MD_count_139 : decode c_MD_count 139 = .ok (.ifCond .ge 7, 3) := by decide +kernel
theorem d_MD_count_142 : decode c_MD_count 142 = .ok (.iconst 1, 1) := by decide +kernel
theorem d_MD_count_143 : decode c_MD_count 143 = .ok (.goto 4, 3) := by decide +kernel
theorem d_MD_count_146 : decode c_MD_count 146 = .ok (.iconst 0, 1) := by decide +kernel
theorem d_MD_count_147 : decode c_MD_count 147 = .ok (.iadd, 1) := by decide +kernel
theorem d_MD_count_148 : decode c_MD_count 148 = .ok (.istore_n 2, 1) := by decide +kernel
theorem d_MD_count_149 : decode c_MD_count 149 = .ok (.iinc 4 1, 3) := by decide +kernel
theorem d_MD_count_152 : decode c_MD_count 152 = .ok (.goto (-137), 3) := by decide +kernel
theorem d_MD_count_155 : decode c_MD_count 155 = .ok (.iinc 3 1, 3) := by decide +kernel
theorem d_MD_count_158 : decode c_MD_count 158 = .ok (.goto (-154), 3) := by decide +kernel
theorem d_MD_count_161 : decode c_MD_count 161 = .ok (.iload_n 2, 1) := by decide +kernel
theorem d_MD_count_162 : decode c_MD_count 162 = .ok (.ireturn, 1) := by decide +kernel
abbrev c_MD_place : ByteArray := prog_7_method_36_code
abbrev y_MD_place : MethodName := ⟨"StripeFieldModel", "place", "(II)I"⟩
theorem d_MD_place_0 : decode c_MD_place 0 = .ok (.aload_n 0, 1) := by decide +kernel
theorem d_MD_place_1 : decode c_MD_place 1 = .ok (.iload_n 1, 1) := by decide +kernel
theorem d_MD_place_2 : decode c_MD_place 2 = .ok (.ifCond .lt 28, 3) := by decide +kernel
theorem d_MD_place_5 : decode c_MD_place 5 = .ok (.iload_n 1, 1) := by decide +kernel
theorem d_MD_place_6 : decode c_MD_place 6 = .ok (.aload_n 0, 1) := by decide +kernel
theorem d_MD_place_7 : decode c_MD_place 7 = .ok (.getfield 58, 3) := by decide +kernel
theorem d_MD_place_10 : decode c_MD_place 10 = .ok (.if_icmp .ge 20, 3) := by decide +kernel
theorem d_MD_place_13 : decode c_MD_place 13 = .ok (.iload_n 2, 1) := by decide +kernel
theorem d_MD_place_14 : decode c_MD_place 14 = .ok (.ifCond .lt 16, 3) := by decide +kernel
theorem d_MD_place_17 : decode c_MD_place 17 = .ok (.iload_n 2, 1) := by decide +kernel
theorem d_MD_place_18 : decode c_MD_place 18 = .ok (.aload_n 0, 1) := by decide +kernel
theorem d_MD_place_19 : decode c_MD_place 19 = .ok (.getfield 55, 3) := by decide +kernel
theorem d_MD_place_22 : decode c_MD_place 22 = .ok (.aload_n 0, 1) := by decide +kernel
theorem d_MD_place_23 : decode c_MD_place 23 = .ok (.getfield 61, 3) := by decide +kernel
theorem d_MD_place_26 : decode c_MD_place 26 = .ok (.imul, 1) := by decide +kernel
theorem d_MD_place_27 : decode c_MD_place 27 = .ok (.if_icmp .lt 7, 3) := by decide +kernel
theorem d_MD_place_30 : decode c_MD_place 30 = .ok (.iconst 1, 1) := by decide +kernel
theorem d_MD_place_31 : decode c_MD_place 31 = .ok (.goto 4, 3) := by decide +kernel
theorem d_MD_place_34 : decode c_MD_place 34 = .ok (.iconst 0, 1) := by decide +kernel
theorem d_MD_place_35 : decode c_MD_place 35 = .ok (.iconst 1, 1) := by decide +kernel
theorem d_MD_place_36 : decode c_MD_place 36 = .ok (.invokevirtual 100, 3) := by decide +kernel
theorem d_MD_place_39 : decode c_MD_place 39 = .ok (.ifCond .eq 5, 3) := by decide +kernel
theorem d_MD_place_42 : decode c_MD_place 42 = .ok (.iconst 0, 1) := by decide +kernel
theorem d_MD_place_43 : decode c_MD_place 43 = .ok (.ireturn, 1) := by decide +kernel
theorem d_MD_place_44 : decode c_MD_place 44 = .ok (.aload_n 0, 1) := by decide +kernel
theorem d_MD_place_45 : decode c_MD_place 45 = .ok (.iload_n 1, 1) := by decide +kernel
theorem d_MD_place_46 : decode c_MD_place 46 = .ok (.iload_n 2, 1) := by decide +kernel
theorem d_MD_place_47 : decode c_MD_place 47 = .ok (.invokevirtual 84, 3) := by decide +kernel
theorem d_MD_place_50 : decode c_MD_place 50 = .ok (.ireturn, 1) := by decide +kernel
