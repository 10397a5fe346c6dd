theorem dX11_rules_110 : decode cX11_rules 110 = .ok (.iadd, 1) := by decide +kernel
theorem dX11_rules_111 : decode cX11_rules 111 = .ok (.iaload, 1) := by decide +kernel
theorem dX11_rules_112 : decode cX11_rules 112 = .ok (.istore 5, 2) := by decide +kernel
theorem dX11_rules_114 : decode cX11_rules 114 = .ok (.iconst 0, 1) := by decide +kernel
theorem dX11_rules_115 : decode cX11_rules 115 = .ok (.istore 6, 2) := by decide +kernel
theorem dX11_rules_117 : decode cX11_rules 117 = .ok (.aload_n 0, 1) := by decide +kernel
theorem dX11_rules_118 : decode cX11_rules 118 = .ok (.getfield 37, 3) := by decide +kernel
theorem dX11_rules_121 : decode cX11_rules 121 = .ok (.iconst 4, 1) := by decide +kernel
theorem dX11_rules_122 : decode cX11_rules 122 = .ok (.aload_n 0, 1) := by decide +kernel
theorem dX11_rules_123 : decode cX11_rules 123 = .ok (.getfield 129, 3) := by decide +kernel
theorem dX11_rules_126 : decode cX11_rules 126 = .ok (.imul, 1) := by decide +kernel
theorem dX11_rules_127 : decode cX11_rules 127 = .ok (.iload_n 1, 1) := by decide +kernel
theorem dX11_rules_128 : decode cX11_rules 128 = .ok (.iadd, 1) := by decide +kernel
theorem dX11_rules_129 : decode cX11_rules 129 = .ok (.iaload, 1) := by decide +kernel
theorem dX11_rules_130 : decode cX11_rules 130 = .ok (.istore 7, 2) := by decide +kernel
theorem dX11_rules_132 : decode cX11_rules 132 = .ok (.iload 7, 2) := by decide +kernel
theorem dX11_rules_134 : decode cX11_rules 134 = .ok (.iload 5, 2) := by decide +kernel
theorem dX11_rules_136 : decode cX11_rules 136 = .ok (.if_icmp .ge 310, 3) := by decide +kernel
theorem dX11_rules_139 : decode cX11_rules 139 = .ok (.aload_n 0, 1) := by decide +kernel
theorem dX11_rules_140 : decode cX11_rules 140 = .ok (.getfield 34, 3) := by decide +kernel
theorem dX11_rules_143 : decode cX11_rules 143 = .ok (.sipush 170, 3) := by decide +kernel
theorem dX11_rules_146 : decode cX11_rules 146 = .ok (.aload_n 0, 1) := by decide +kernel
theorem dX11_rules_147 : decode cX11_rules 147 = .ok (.getfield 129, 3) := by decide +kernel
theorem dX11_rules_150 : decode cX11_rules 150 = .ok (.imul, 1) := by decide +kernel
theorem dX11_rules_151 : decode cX11_rules 151 = .ok (.iload 7, 2) := by decide +kernel
theorem dX11_rules_153 : decode cX11_rules 153 = .ok (.iadd, 1) := by decide +kernel
theorem dX11_rules_154 : decode cX11_rules 154 = .ok (.iaload, 1) := by decide +kernel
theorem dX11_rules_155 : decode cX11_rules 155 = .ok (.istore 8, 2) := by decide +kernel
theorem dX11_rules_157 : decode cX11_rules 157 = .ok (.iload 8, 2) := by decide +kernel
theorem dX11_rules_159 : decode cX11_rules 159 = .ok (.ifCond .lt 18, 3) := by decide +kernel
theorem dX11_rules_162 : decode cX11_rules 162 = .ok (.aload_n 0, 1) := by decide +kernel
theorem dX11_rules_163 : decode cX11_rules 163 = .ok (.getfield 40, 3) := by decide +kernel
theorem dX11_rules_166 : decode cX11_rules 166 = .ok (.iload 6, 2) := by decide +kernel
theorem dX11_rules_168 : decode cX11_rules 168 = .ok (.iinc 6 1, 3) := by decide +kernel
theorem dX11_rules_171 : decode cX11_rules 171 = .ok (.iload 8, 2) := by decide +kernel
theorem dX11_rules_173 : decode cX11_rules 173 = .ok (.iastore, 1) := by decide +kernel
theorem dX11_rules_174 : decode cX11_rules 174 = .ok (.goto 266, 3) := by decide +kernel
theorem dX11_rules_177 : decode cX11_rules 177 = .ok (.iload 8, 2) := by decide +kernel
theorem dX11_rules_179 : decode cX11_rules 179 = .ok (.bipush (-7), 2) := by decide +kernel
theorem dX11_rules_181 : decode cX11_rules 181 = .ok (.if_icmp .le 26, 3) := by decide +kernel
theorem dX11_rules_184 : decode cX11_rules 184 = .ok (.aload_n 0, 1) := by decide +kernel
theorem dX11_rules_185 : decode cX11_rules 185 = .ok (.getfield 40, 3) := by decide +kernel
theorem dX11_rules_188 : decode cX11_rules 188 = .ok (.iload 6, 2) := by decide +kernel
theorem dX11_rules_190 : decode cX11_rules 190 = .ok (.iinc 6 1, 3) := by decide +kernel
theorem dX11_rules_193 : decode cX11_rules 193 = .ok (.aload_n 0, 1) := by decide +kernel
theorem dX11_rules_194 : decode cX11_rules 194 = .ok (.getfield 43, 3) := by decide +kernel
theorem dX11_rules_197 : decode cX11_rules 197 = .ok (.iload 8, 2) := by decide +kernel
theorem dX11_rules_199 : decode cX11_rules 199 = .ok (.ineg, 1) := by decide +kernel
theorem dX11_rules_200 : decode cX11_rules 200 = .ok (.iconst 1, 1) := by decide +kernel
theorem dX11_rules_201 : decode cX11_rules 201 = .ok (.isub, 1) := by decide +kernel
theorem dX11_rules_202 : decode cX11_rules 202 = .ok (.iaload, 1) := by decide +kernel
theorem dX11_rules_203 : decode cX11_rules 203 = .ok (.iastore, 1) := by decide +kernel
theorem dX11_rules_204 : decode cX11_rules 204 = .ok (.goto 236, 3) := by decide +kernel
theorem dX11_rules_207 : decode cX11_rules 207 = .ok (.aload_n 0, 1) := by decide +kernel
theorem dX11_rules_208 : decode cX11_rules 208 = .ok (.getfield 40, 3) := by decide +kernel
theorem dX11_rules_211 : decode cX11_rules 211 = .ok (.iload 6, 2) := by decide +kernel
theorem dX11_rules_213 : decode cX11_rules 213 = .ok (.iconst 1, 1) := by decide +kernel
theorem dX11_rules_214 : decode cX11_rules 214 = .ok (.isub, 1) := by decide +kernel
theorem dX11_rules_215 : decode cX11_rules 215 = .ok (.iaload, 1) := by decide +kernel
theorem dX11_rules_216 : decode cX11_rules 216 = .ok (.istore 9, 2) := by decide +kernel
theorem dX11_rules_218 : decode cX11_rules 218 = .ok (.iload 8, 2) := by decide +kernel
theorem dX11_rules_220 : decode cX11_rules 220 = .ok (.bipush (-13), 2) := by decide +kernel
theorem dX11_rules_222 : decode cX11_rules 222 = .ok (.if_icmp .ne 25, 3) := by decide +kernel
theorem dX11_rules_225 : decode cX11_rules 225 = .ok (.aload_n 0, 1) := by decide +kernel
theorem dX11_rules_226 : decode cX11_rules 226 = .ok (.getfield 40, 3) := by decide +kernel
theorem dX11_rules_229 : decode cX11_rules 229 = .ok (.iload 6, 2) := by decide +kernel
theorem dX11_rules_231 : decode cX11_rules 231 = .ok (.iconst 1, 1) := by decide +kernel
theorem dX11_rules_232 : decode cX11_rules 232 = .ok (.isub, 1) := by decide +kernel
theorem dX11_rules_233 : decode cX11_rules 233 = .ok (.iload 9, 2) := by decide +kernel
theorem dX11_rules_235 : decode cX11_rules 235 = .ok (.ifCond .ne 7, 3) := by decide +kernel
theorem dX11_rules_238 : decode cX11_rules 238 = .ok (.iconst 1, 1) := by decide +kernel
theorem dX11_rules_239 : decode cX11_rules 239 = .ok (.goto 4, 3) := by decide +kernel
theorem dX11_rules_242 : decode cX11_rules 242 = .ok (.iconst 0, 1) := by decide +kernel
theorem dX11_rules_243 : decode cX11_rules 243 = .ok (.iastore, 1) := by decide +kernel
theorem dX11_rules_244 : decode cX11_rules 244 = .ok (.goto 196, 3) := by decide +kernel
theorem dX11_rules_247 : decode cX11_rules 247 = .ok (.iload 8, 2) := by decide +kernel
theorem dX11_rules_249 : decode cX11_rules 249 = .ok (.bipush (-19), 2) := by decide +kernel
theorem dX11_rules_251 : decode cX11_rules 251 = .ok (.if_icmp .ne 18, 3) := by decide +kernel
theorem dX11_rules_254 : decode cX11_rules 254 = .ok (.aload_n 0, 1) := by decide +kernel
theorem dX11_rules_255 : decode cX11_rules 255 = .ok (.getfield 40, 3) := by decide +kernel
theorem dX11_rules_258 : decode cX11_rules 258 = .ok (.iload 6, 2) := by decide +kernel
theorem dX11_rules_260 : decode cX11_rules 260 = .ok (.iconst 1, 1) := by decide +kernel
theorem dX11_rules_261 : decode cX11_rules 261 = .ok (.isub, 1) := by decide +kernel
theorem dX11_rules_262 : decode cX11_rules 262 = .ok (.iload 9, 2) := by decide +kernel
theorem dX11_rules_264 : decode cX11_rules 264 = .ok (.ineg, 1) := by decide +kernel
theorem dX11_rules_265 : decode cX11_rules 265 = .ok (.iastore, 1) := by decide +kernel
theorem dX11_rules_266 : decode cX11_rules 266 = .ok (.goto 174, 3) := by decide +kernel
theorem dX11_rules_269 : decode cX11_rules 269 = .ok (.aload_n 0, 1) := by decide +kernel
theorem dX11_rules_270 : decode cX11_rules 270 = .ok (.getfield 40, 3) := by decide +kernel
theorem dX11_rules_273 : decode cX11_rules 273 = .ok (.iload 6, 2) := by decide +kernel
theorem dX11_rules_275 : decode cX11_rules 275 = .ok (.iconst 2, 1) := by decide +kernel
theorem dX11_rules_276 : decode cX11_rules 276 = .ok (.isub, 1) := by decide +kernel
theorem dX11_rules_277 : decode cX11_rules 277 = .ok (.iaload, 1) := by decide +kernel
theorem dX11_rules_278 : decode cX11_rules 278 = .ok (.istore 10, 2) := by decide +kernel
theorem dX11_rules_280 : decode cX11_rules 280 = .ok (.iinc 6 (-1), 3) := by decide +kernel
theorem dX11_rules_283 : decode cX11_rules 283 = .ok (.iload 8, 2) := by decide +kernel
theorem dX11_rules_285 : decode cX11_rules 285 = .ok (.tableswitch 137 (-17) (-11) #[127, 117, 100, 83, 137, 63, 43], 43) := by decide +kernel
theorem dX11_rules_328 : decode cX11_rules 328 = .ok (.iload 10, 2) := by decide +kernel
theorem dX11_rules_330 : decode cX11_rules 330 = .ok (.ifCond .ne 8, 3) := by decide +kernel
theorem dX11_rules_333 : decode cX11_rules 333 = .ok (.iload 9, 2) := by decide +kernel
theorem dX11_rules_335 : decode cX11_rules 335 = .ok (.ifCond .eq 7, 3) := by decide +kernel
theorem dX11_rules_338 : decode cX11_rules 338 = .ok (.iconst 1, 1) := by decide +kernel
theorem dX11_rules_339 : decode cX11_rules 339 = .ok (.goto 4, 3) := by decide +kernel
theorem dX11_rules_342 : decode cX11_rules 342 = .ok (.iconst 0, 1) := by decide +kernel
theorem dX11_rules_343 : decode cX11_rules 343 = .ok (.istore 11, 2) := by decide +kernel
theorem dX11_rules_345 : decode cX11_rules 345 = .ok (.goto 84, 3) := by decide +kernel
theorem dX11_rules_348 : decode cX11_rules 348 = .ok (.iload 10, 2) := by decide +kernel
theorem dX11_rules_350 : decode cX11_rules 350 = .ok (.ifCond .eq 12, 3) := by decide +kernel
theorem dX11_rules_353 : decode cX11_rules 353 = .ok (.iload 9, 2) := by decide +kernel
theorem dX11_rules_355 : decode cX11_rules 355 = .ok (.ifCond .eq 7, 3) := by decide +kernel
theorem dX11_rules_358 : decode cX11_rules 358 = .ok (.iconst 1, 1) := by decide +kernel
theorem dX11_rules_359 : decode cX11_rules 359 = .ok (.goto 4, 3) := by decide +kernel
theorem dX11_rules_362 : decode cX11_rules 362 = .ok (.iconst 0, 1) := by decide +kernel
theorem dX11_rules_363 : decode cX11_rules 363 = .ok (.istore 11, 2) := by decide +kernel
theorem dX11_rules_365 : decode cX11_rules 365 = .ok (.goto 64, 3) := by decide +kernel
theorem dX11_rules_368 : decode cX11_rules 368 = .ok (.iload 10, 2) := by decide +kernel
theorem dX11_rules_370 : decode cX11_rules 370 = .ok (.iload 9, 2) := by decide +kernel
theorem dX11_rules_372 : decode cX11_rules 372 = .ok (.if_icmp .ge 7, 3) := by decide +kernel
theorem dX11_rules_375 : decode cX11_rules 375 = .ok (.iconst 1, 1) := by decide +kernel
theorem dX11_rules_376 : decode cX11_rules 376 = .ok (.goto 4, 3) := by decide +kernel
theorem dX11_rules_379 : decode cX11_rules 379 = .ok (.iconst 0, 1) := by decide +kernel
theorem dX11_rules_380 : decode cX11_rules 380 = .ok (.istore 11, 2) := by decide +kernel
theorem dX11_rules_382 : decode cX11_rules 382 = .ok (.goto 47, 3) := by decide +kernel
theorem dX11_rules_385 : decode cX11_rules 385 = .ok (.iload 10, 2) := by decide +kernel
theorem dX11_rules_387 : decode cX11_rules 387 = .ok (.iload 9, 2) := by decide +kernel
theorem dX11_rules_389 : decode cX11_rules 389 = .ok (.if_icmp .ne 7, 3) := by decide +kernel
theorem dX11_rules_392 : decode cX11_rules 392 = .ok (.iconst 1, 1) := by decide +kernel
theorem dX11_rules_393 : decode cX11_rules 393 = .ok (.goto 4, 3) := by decide +kernel
theorem dX11_rules_396 : decode cX11_rules 396 = .ok (.iconst 0, 1) := by decide +kernel
theorem dX11_rules_397 : decode cX11_rules 397 = .ok (.istore 11, 2) := by decide +kernel
theorem dX11_rules_399 : decode cX11_rules 399 = .ok (.goto 30, 3) := by decide +kernel
theorem dX11_rules_402 : decode cX11_rules 402 = .ok (.iload 10, 2) := by decide +kernel
theorem dX11_rules_404 : decode cX11_rules 404 = .ok (.iload 9, 2) := by decide +kernel
theorem dX11_rules_406 : decode cX11_rules 406 = .ok (.iadd, 1) := by decide +kernel
theorem dX11_rules_407 : decode cX11_rules 407 = .ok (.istore 11, 2) := by decide +kernel
theorem dX11_rules_409 : decode cX11_rules 409 = .ok (.goto 20, 3) := by decide +kernel
theorem dX11_rules_412 : decode cX11_rules 412 = .ok (.iload 10, 2) := by decide +kernel
theorem dX11_rules_414 : decode cX11_rules 414 = .ok (.iload 9, 2) := by decide +kernel
theorem dX11_rules_416 : decode cX11_rules 416 = .ok (.isub, 1) := by decide +kernel
theorem dX11_rules_417 : decode cX11_rules 417 = .ok (.istore 11, 2) := by decide +kernel
theorem dX11_rules_419 : decode cX11_rules 419 = .ok (.goto 10, 3) := by decide +kernel
theorem dX11_rules_422 : decode cX11_rules 422 = .ok (.iload 10, 2) := by decide +kernel
theorem dX11_rules_424 : decode cX11_rules 424 = .ok (.iload 9, 2) := by decide +kernel
theorem dX11_rules_426 : decode cX11_rules 426 = .ok (.imul, 1) := by decide +kernel
theorem dX11_rules_427 : decode cX11_rules 427 = .ok (.istore 11, 2) := by decide +kernel
theorem dX11_rules_429 : decode cX11_rules 429 = .ok (.aload_n 0, 1) := by decide +kernel
theorem dX11_rules_430 : decode cX11_rules 430 = .ok (.getfield 40, 3) := by decide +kernel
theorem dX11_rules_433 : decode cX11_rules 433 = .ok (.iload 6, 2) := by decide +kernel
theorem dX11_rules_435 : decode cX11_rules 435 = .ok (.iconst 1, 1) := by decide +kernel
theorem dX11_rules_436 : decode cX11_rules 436 = .ok (.isub, 1) := by decide +kernel
theorem dX11_rules_437 : decode cX11_rules 437 = .ok (.iload 11, 2) := by decide +kernel
theorem dX11_rules_439 : decode cX11_rules 439 = .ok (.iastore, 1) := by decide +kernel
theorem dX11_rules_440 : decode cX11_rules 440 = .ok (.iinc 7 1, 3) := by decide +kernel
theorem dX11_rules_443 : decode cX11_rules 443 = .ok (.goto (-311), 3) := by decide +kernel
theorem dX11_rules_446 : decode cX11_rules 446 = .ok (.aload_n 0, 1) := by decide +kernel
theorem dX11_rules_447 : decode cX11_rules 447 = .ok (.getfield 40, 3) := by decide +kernel
theorem dX11_rules_450 : decode cX11_rules 450 = .ok (.iconst 0, 1) := by decide +kernel
theorem dX11_rules_451 : decode cX11_rules 451 = .ok (.iaload, 1) := by decide +kernel
theorem dX11_rules_452 : decode cX11_rules 452 = .ok (.ireturn, 1) := by decide +kernel
theorem dX11_owes_0 : decode cX11_owes 0 = .ok (.iconst 0, 1) := by decide +kernel
theorem dX11_owes_1 : decode cX11_owes 1 = .ok (.bipush 99, 2) := by decide +kernel
theorem dX11_owes_3 : decode cX11_owes 3 = .ok (.aload_n 0, 1) := by decide +kernel
theorem dX11_owes_4 : decode cX11_owes 4 = .ok (.iconst 0, 1) := by decide +kernel
theorem dX11_owes_5 : decode cX11_owes 5 = .ok (.iload_n 1, 1) := by decide +kernel
theorem dX11_owes_6 : decode cX11_owes 6 = .ok (.aload_n 0, 1) := by decide +kernel
theorem dX11_owes_7 : decode cX11_owes 7 = .ok (.getfield 16, 3) := by decide +kernel
theorem dX11_owes_10 : decode cX11_owes 10 = .ok (.iload_n 1, 1) := by decide +kernel
theorem dX11_owes_11 : decode cX11_owes 11 = .ok (.iaload, 1) := by decide +kernel
theorem dX11_owes_12 : decode cX11_owes 12 = .ok (.iload_n 2, 1) := by decide +kernel
theorem dX11_owes_13 : decode cX11_owes 13 = .ok (.invokevirtual 132, 3) := by decide +kernel
theorem dX11_owes_16 : decode cX11_owes 16 = .ok (.invokestatic 136, 3) := by decide +kernel
theorem dX11_owes_19 : decode cX11_owes 19 = .ok (.invokestatic 122, 3) := by decide +kernel
theorem dX11_owes_22 : decode cX11_owes 22 = .ok (.istore_n 3, 1) := by decide +kernel
theorem dX11_owes_23 : decode cX11_owes 23 = .ok (.iconst 0, 1) := by decide +kernel
theorem dX11_owes_24 : decode cX11_owes 24 = .ok (.iload_n 2, 1) := by decide +kernel
theorem dX11_owes_25 : decode cX11_owes 25 = .ok (.aload_n 0, 1) := by decide +kernel
theorem dX11_owes_26 : decode cX11_owes 26 = .ok (.getfield 19, 3) := by decide +kernel
theorem dX11_owes_29 : decode cX11_owes 29 = .ok (.iload_n 1, 1) := by decide +kernel
theorem dX11_owes_30 : decode cX11_owes 30 = .ok (.iaload, 1) := by decide +kernel
theorem dX11_owes_31 : decode cX11_owes 31 = .ok (.isub, 1) := by decide +kernel
theorem dX11_owes_32 : decode cX11_owes 32 = .ok (.aload_n 0, 1) := by decide +kernel
theorem dX11_owes_33 : decode cX11_owes 33 = .ok (.getfield 22, 3) := by decide +kernel
theorem dX11_owes_36 : decode cX11_owes 36 = .ok (.iload_n 1, 1) := by decide +kernel
theorem dX11_owes_37 : decode cX11_owes 37 = .ok (.iaload, 1) := by decide +kernel
theorem dX11_owes_38 : decode cX11_owes 38 = .ok (.isub, 1) := by decide +kernel
theorem dX11_owes_39 : decode cX11_owes 39 = .ok (.invokestatic 122, 3) := by decide +kernel
theorem dX11_owes_42 : decode cX11_owes 42 = .ok (.istore 4, 2) := by decide +kernel
theorem dX11_owes_44 : decode cX11_owes 44 = .ok (.iload 4, 2) := by decide +kernel
theorem dX11_owes_46 : decode cX11_owes 46 = .ok (.bipush 14, 2) := by decide +kernel
theorem dX11_owes_48 : decode cX11_owes 48 = .ok (.iadd, 1) := by decide +kernel
theorem dX11_owes_49 : decode cX11_owes 49 = .ok (.bipush 15, 2) := by decide +kernel
theorem dX11_owes_51 : decode cX11_owes 51 = .ok (.idiv, 1) := by decide +kernel
theorem dX11_owes_52 : decode cX11_owes 52 = .ok (.iload_n 3, 1) := by decide +kernel
theorem dX11_owes_53 : decode cX11_owes 53 = .ok (.imul, 1) := by decide +kernel
theorem dX11_owes_54 : decode cX11_owes 54 = .ok (.istore 5, 2) := by decide +kernel
theorem dX11_owes_56 : decode cX11_owes 56 = .ok (.aload_n 0, 1) := by decide +kernel
theorem dX11_owes_57 : decode cX11_owes 57 = .ok (.getfield 7, 3) := by decide +kernel
theorem dX11_owes_60 : decode cX11_owes 60 = .ok (.iload_n 1, 1) := by decide +kernel
theorem dX11_owes_61 : decode cX11_owes 61 = .ok (.iaload, 1) := by decide +kernel
theorem dX11_owes_62 : decode cX11_owes 62 = .ok (.tableswitch 63 2 5 #[30, 35, 37, 44], 30) := by decide +kernel
theorem dX11_owes_92 : decode cX11_owes 92 = .ok (.iload 5, 2) := by decide +kernel
theorem dX11_owes_94 : decode cX11_owes 94 = .ok (.iconst 2, 1) := by decide +kernel
theorem dX11_owes_95 : decode cX11_owes 95 = .ok (.idiv, 1) := by decide +kernel
theorem dX11_owes_96 : decode cX11_owes 96 = .ok (.ireturn, 1) := by decide +kernel
theorem dX11_owes_97 : decode cX11_owes 97 = .ok (.iconst 0, 1) := by decide +kernel
theorem dX11_owes_98 : decode cX11_owes 98 = .ok (.ireturn, 1) := by decide +kernel
theorem dX11_owes_99 : decode cX11_owes 99 = .ok (.iload 5, 2) := by decide +kernel
theorem dX11_owes_101 : decode cX11_owes 101 = .ok (.iconst 2, 1) := by decide +kernel
theorem dX11_owes_102 : decode cX11_owes 102 = .ok (.idiv, 1) := by decide +kernel
theorem dX11_owes_103 : decode cX11_owes 103 = .ok (.iconst 2, 1) := by decide +kernel
theorem dX11_owes_104 : decode cX11_owes 104 = .ok (.iadd, 1) := by decide +kernel
theorem dX11_owes_105 : decode cX11_owes 105 = .ok (.ireturn, 1) := by decide +kernel
theorem dX11_owes_106 : decode cX11_owes 106 = .ok (.iload 5, 2) := by decide +kernel
theorem dX11_owes_108 : decode cX11_owes 108 = .ok (.ifCond .le 15, 3) := by decide +kernel
theorem dX11_owes_111 : decode cX11_owes 111 = .ok (.iload 5, 2) := by decide +kernel
theorem dX11_owes_113 : decode cX11_owes 113 = .ok (.aload_n 0, 1) := by decide +kernel
theorem dX11_owes_114 : decode cX11_owes 114 = .ok (.getfield 13, 3) := by decide +kernel
theorem dX11_owes_117 : decode cX11_owes 117 = .ok (.iload_n 1, 1) := by decide +kernel
theorem dX11_owes_118 : decode cX11_owes 118 = .ok (.iaload, 1) := by decide +kernel
theorem dX11_owes_119 : decode cX11_owes 119 = .ok (.iadd, 1) := by decide +kernel
theorem dX11_owes_120 : decode cX11_owes 120 = .ok (.goto 4, 3) := by decide +kernel
theorem dX11_owes_123 : decode cX11_owes 123 = .ok (.iconst 0, 1) := by decide +kernel
theorem dX11_owes_124 : decode cX11_owes 124 = .ok (.ireturn, 1) := by decide +kernel
theorem dX11_owes_125 : decode cX11_owes 125 = .ok (.iload 5, 2) := by decide +kernel
theorem dX11_owes_127 : decode cX11_owes 127 = .ok (.ireturn, 1) := by decide +kernel
theorem dX11_would_0 : decode cX11_would 0 = .ok (.iload_n 2, 1) := by decide +kernel
theorem dX11_would_1 : decode cX11_would 1 = .ok (.iconst 0, 1) := by decide +kernel
theorem dX11_would_2 : decode cX11_would 2 = .ok (.invokestatic 126, 3) := by decide +kernel
theorem dX11_would_5 : decode cX11_would 5 = .ok (.aload_n 0, 1) := by decide +kernel
theorem dX11_would_6 : decode cX11_would 6 = .ok (.iload_n 1, 1) := by decide +kernel
theorem dX11_would_7 : decode cX11_would 7 = .ok (.invokevirtual 139, 3) := by decide +kernel
theorem dX11_would_10 : decode cX11_would 10 = .ok (.if_icmp .gt 29, 3) := by decide +kernel
theorem dX11_would_13 : decode cX11_would 13 = .ok (.aload_n 0, 1) := by decide +kernel
theorem dX11_would_14 : decode cX11_would 14 = .ok (.iconst 1, 1) := by decide +kernel
theorem dX11_would_15 : decode cX11_would 15 = .ok (.iload_n 1, 1) := by decide +kernel
theorem dX11_would_16 : decode cX11_would 16 = .ok (.iload_n 2, 1) := by decide +kernel
theorem dX11_would_17 : decode cX11_would 17 = .ok (.iload_n 3, 1) := by decide +kernel
theorem dX11_would_18 : decode cX11_would 18 = .ok (.invokevirtual 132, 3) := by decide +kernel
theorem dX11_would_21 : decode cX11_would 21 = .ok (.ifCond .eq 18, 3) := by decide +kernel
theorem dX11_would_24 : decode cX11_would 24 = .ok (.aload_n 0, 1) := by decide +kernel
theorem dX11_would_25 : decode cX11_would 25 = .ok (.iconst 2, 1) := by decide +kernel
theorem dX11_would_26 : decode cX11_would 26 = .ok (.iload_n 1, 1) := by decide +kernel
theorem dX11_would_27 : decode cX11_would 27 = .ok (.iload_n 2, 1) := by decide +kernel
theorem dX11_would_28 : decode cX11_would 28 = .ok (.iload_n 3, 1) := by decide +kernel
theorem dX11_would_29 : decode cX11_would 29 = .ok (.invokevirtual 132, 3) := by decide +kernel
theorem dX11_would_32 : decode cX11_would 32 = .ok (.ifCond .eq 7, 3) := by decide +kernel
theorem dX11_would_35 : decode cX11_would 35 = .ok (.iconst 1, 1) := by decide +kernel
theorem dX11_would_36 : decode cX11_would 36 = .ok (.goto 4, 3) := by decide +kernel
theorem dX11_would_39 : decode cX11_would 39 = .ok (.iconst 0, 1) := by decide +kernel
theorem dX11_would_40 : decode cX11_would 40 = .ok (.ireturn, 1) := by decide +kernel
theorem dX11_would__0 : decode cX11_would_ 0 = .ok (.aload_n 0, 1) := by decide +kernel
theorem dX11_would__1 : decode cX11_would_ 1 = .ok (.iload_n 1, 1) := by decide +kernel
theorem dX11_would__2 : decode cX11_would_ 2 = .ok (.aload_n 0, 1) := by decide +kernel
theorem dX11_would__3 : decode cX11_would_ 3 = .ok (.getfield 16, 3) := by decide +kernel
theorem dX11_would__6 : decode cX11_would_ 6 = .ok (.iload_n 1, 1) := by decide +kernel
theorem dX11_would__7 : decode cX11_would_ 7 = .ok (.iaload, 1) := by decide +kernel
theorem dX11_would__8 : decode cX11_would_ 8 = .ok (.aload_n 0, 1) := by decide +kernel
theorem dX11_would__9 : decode cX11_would_ 9 = .ok (.getfield 142, 3) := by decide +kernel
theorem dX11_would__12 : decode cX11_would_ 12 = .ok (.invokevirtual 145, 3) := by decide +kernel
theorem dX11_would__15 : decode cX11_would_ 15 = .ok (.ireturn, 1) := by decide +kernel
theorem dX11_needs_0 : decode cX11_needs 0 = .ok (.aload_n 0, 1) := by decide +kernel
theorem dX11_needs_1 : decode cX11_needs 1 = .ok (.getfield 16, 3) := by decide +kernel
theorem dX11_needs_4 : decode cX11_needs 4 = .ok (.iload_n 1, 1) := by decide +kernel
theorem dX11_needs_5 : decode cX11_needs 5 = .ok (.iaload, 1) := by decide +kernel
theorem dX11_needs_6 : decode cX11_needs 6 = .ok (.iconst 0, 1) := by decide +kernel
theorem dX11_needs_7 : decode cX11_needs 7 = .ok (.invokestatic 126, 3) := by decide +kernel
theorem dX11_needs_10 : decode cX11_needs 10 = .ok (.aload_n 0, 1) := by decide +kernel
theorem dX11_needs_11 : decode cX11_needs 11 = .ok (.iload_n 1, 1) := by decide +kernel
theorem dX11_needs_12 : decode cX11_needs 12 = .ok (.invokevirtual 148, 3) := by decide +kernel
theorem dX11_needs_15 : decode cX11_needs 15 = .ok (.imul, 1) := by decide +kernel
theorem dX11_needs_16 : decode cX11_needs 16 = .ok (.ireturn, 1) := by decide +kernel
theorem dX11_told_0 : decode cX11_told 0 = .ok (.aload_n 0, 1) := by decide +kernel
theorem dX11_told_1 : decode cX11_told 1 = .ok (.iload_n 1, 1) := by decide +kernel
theorem dX11_told_2 : decode cX11_told 2 = .ok (.invokevirtual 112, 3) := by decide +kernel
theorem dX11_told_5 : decode cX11_told 5 = .ok (.ifCond .eq 13, 3) := by decide +kernel
theorem dX11_told_8 : decode cX11_told 8 = .ok (.iload_n 2, 1) := by decide +kernel
theorem dX11_told_9 : decode cX11_told 9 = .ok (.iconst 0, 1) := by decide +kernel
theorem dX11_told_10 : decode cX11_told 10 = .ok (.bipush 10, 2) := by decide +kernel
theorem dX11_told_12 : decode cX11_told 12 = .ok (.invokestatic 102, 3) := by decide +kernel
theorem dX11_told_15 : decode cX11_told 15 = .ok (.ifCond .ne 6, 3) := by decide +kernel
theorem dX11_told_18 : decode cX11_told 18 = .ok (.bipush (-2), 2) := by decide +kernel
theorem dX11_told_20 : decode cX11_told 20 = .ok (.ireturn, 1) := by decide +kernel
theorem dX11_told_21 : decode cX11_told 21 = .ok (.iload_n 2, 1) := by decide +kernel
theorem dX11_told_22 : decode cX11_told 22 = .ok (.tableswitch 129 0 9 #[54, 61, 68, 75, 82, 89, 96, 103, 109, 115], 54) := by decide +kernel
theorem dX11_told_76 : decode cX11_told 76 = .ok (.aload_n 0, 1) := by decide +kernel
theorem dX11_told_77 : decode cX11_told 77 = .ok (.getfield 16, 3) := by decide +kernel
theorem dX11_told_80 : decode cX11_told 80 = .ok (.iload_n 1, 1) := by decide +kernel
theorem dX11_told_81 : decode cX11_told 81 = .ok (.iaload, 1) := by decide +kernel
theorem dX11_told_82 : decode cX11_told 82 = .ok (.ireturn, 1) := by decide +kernel
theorem dX11_told_83 : decode cX11_told 83 = .ok (.aload_n 0, 1) := by decide +kernel
theorem dX11_told_84 : decode cX11_told 84 = .ok (.getfield 19, 3) := by decide +kernel
theorem dX11_told_87 : decode cX11_told 87 = .ok (.iload_n 1, 1) := by decide +kernel
theorem dX11_told_88 : decode cX11_told 88 = .ok (.iaload, 1) := by decide +kernel
theorem dX11_told_89 : decode cX11_told 89 = .ok (.ireturn, 1) := by decide +kernel
theorem dX11_told_90 : decode cX11_told 90 = .ok (.aload_n 0, 1) := by decide +kernel
theorem dX11_told_91 : decode cX11_told 91 = .ok (.getfield 22, 3) := by decide +kernel
theorem dX11_told_94 : decode cX11_told 94 = .ok (.iload_n 1, 1) := by decide +kernel
theorem dX11_told_95 : decode cX11_told 95 = .ok (.iaload, 1) := by decide +kernel
theorem dX11_told_96 : decode cX11_told 96 = .ok (.ireturn, 1) := by decide +kernel
theorem dX11_told_97 : decode cX11_told 97 = .ok (.aload_n 0, 1) := by decide +kernel
theorem dX11_told_98 : decode cX11_told 98 = .ok (.getfield 13, 3) := by decide +kernel
theorem dX11_told_101 : decode cX11_told 101 = .ok (.iload_n 1, 1) := by decide +kernel
theorem dX11_told_102 : decode cX11_told 102 = .ok (.iaload, 1) := by decide +kernel
theorem dX11_told_103 : decode cX11_told 103 = .ok (.ireturn, 1) := by decide +kernel
theorem dX11_told_104 : decode cX11_told 104 = .ok (.aload_n 0, 1) := by decide +kernel
theorem dX11_told_105 : decode cX11_told 105 = .ok (.getfield 7, 3) := by decide +kernel
theorem dX11_told_108 : decode cX11_told 108 = .ok (.iload_n 1, 1) := by decide +kernel
theorem dX11_told_109 : decode cX11_told 109 = .ok (.iaload, 1) := by decide +kernel
theorem dX11_told_110 : decode cX11_told 110 = .ok (.ireturn, 1) := by decide +kernel
theorem dX11_told_111 : decode cX11_told 111 = .ok (.aload_n 0, 1) := by decide +kernel
theorem dX11_told_112 : decode cX11_told 112 = .ok (.getfield 25, 3) := by decide +kernel
theorem dX11_told_115 : decode cX11_told 115 = .ok (.iload_n 1, 1) := by decide +kernel
theorem dX11_told_116 : decode cX11_told 116 = .ok (.iaload, 1) := by decide +kernel
theorem dX11_told_117 : decode cX11_told 117 = .ok (.ireturn, 1) := by decide +kernel
theorem dX11_told_118 : decode cX11_told 118 = .ok (.aload_n 0, 1) := by decide +kernel
theorem dX11_told_119 : decode cX11_told 119 = .ok (.getfield 28, 3) := by decide +kernel
theorem dX11_told_122 : decode cX11_told 122 = .ok (.iload_n 1, 1) := by decide +kernel
theorem dX11_told_123 : decode cX11_told 123 = .ok (.iaload, 1) := by decide +kernel
theorem dX11_told_124 : decode cX11_told 124 = .ok (.ireturn, 1) := by decide +kernel
theorem dX11_told_125 : decode cX11_told 125 = .ok (.aload_n 0, 1) := by decide +kernel
theorem dX11_told_126 : decode cX11_told 126 = .ok (.iload_n 1, 1) := by decide +kernel
theorem dX11_told_127 : decode cX11_told 127 = .ok (.invokevirtual 148, 3) := by decide +kernel
theorem dX11_told_130 : decode cX11_told 130 = .ok (.ireturn, 1) := by decide +kernel
theorem dX11_told_131 : decode cX11_told 131 = .ok (.aload_n 0, 1) := by decide +kernel
theorem dX11_told_132 : decode cX11_told 132 = .ok (.iload_n 1, 1) := by decide +kernel
theorem dX11_told_133 : decode cX11_told 133 = .ok (.invokevirtual 139, 3) := by decide +kernel
theorem dX11_told_136 : decode cX11_told 136 = .ok (.ireturn, 1) := by decide +kernel
theorem dX11_told_137 : decode cX11_told 137 = .ok (.aload_n 0, 1) := by decide +kernel
theorem dX11_told_138 : decode cX11_told 138 = .ok (.iload_n 1, 1) := by decide +kernel
theorem dX11_told_139 : decode cX11_told 139 = .ok (.invokevirtual 151, 3) := by decide +kernel
theorem dX11_told_142 : decode cX11_told 142 = .ok (.ifCond .eq 7, 3) := by decide +kernel
theorem dX11_told_145 : decode cX11_told 145 = .ok (.iconst 1, 1) := by decide +kernel
theorem dX11_told_146 : decode cX11_told 146 = .ok (.goto 4, 3) := by decide +kernel
theorem dX11_told_149 : decode cX11_told 149 = .ok (.iconst 0, 1) := by decide +kernel
theorem dX11_told_150 : decode cX11_told 150 = .ok (.ireturn, 1) := by decide +kernel
theorem dX11_told_151 : decode cX11_told 151 = .ok (.aload_n 0, 1) := by decide +kernel
theorem dX11_told_152 : decode cX11_told 152 = .ok (.iload_n 1, 1) := by decide +kernel
theorem dX11_told_153 : decode cX11_told 153 = .ok (.aload_n 0, 1) := by decide +kernel
theorem dX11_told_154 : decode cX11_told 154 = .ok (.getfield 142, 3) := by decide +kernel
theorem dX11_told_157 : decode cX11_told 157 = .ok (.invokevirtual 153, 3) := by decide +kernel
theorem dX11_told_160 : decode cX11_told 160 = .ok (.ireturn, 1) := by decide +kernel
theorem dX11_feed_0 : decode cX11_feed 0 = .ok (.iload_n 1, 1) := by decide +kernel
theorem dX11_feed_1 : decode cX11_feed 1 = .ok (.iconst 0, 1) := by decide +kernel
theorem dX11_feed_2 : decode cX11_feed 2 = .ok (.sipush 255, 3) := by decide +kernel
theorem dX11_feed_5 : decode cX11_feed 5 = .ok (.invokestatic 102, 3) := by decide +kernel
theorem dX11_feed_8 : decode cX11_feed 8 = .ok (.ifCond .ne 6, 3) := by decide +kernel
theorem dX11_feed_11 : decode cX11_feed 11 = .ok (.bipush (-2), 2) := by decide +kernel
theorem dX11_feed_13 : decode cX11_feed 13 = .ok (.ireturn, 1) := by decide +kernel
theorem dX11_feed_14 : decode cX11_feed 14 = .ok (.aload_n 0, 1) := by decide +kernel
theorem dX11_feed_15 : decode cX11_feed 15 = .ok (.getfield 156, 3) := by decide +kernel
theorem dX11_feed_18 : decode cX11_feed 18 = .ok (.sipush 160, 3) := by decide +kernel
theorem dX11_feed_21 : decode cX11_feed 21 = .ok (.if_icmp .ne 6, 3) := by decide +kernel
theorem dX11_feed_24 : decode cX11_feed 24 = .ok (.bipush (-4), 2) := by decide +kernel
theorem dX11_feed_26 : decode cX11_feed 26 = .ok (.ireturn, 1) := by decide +kernel
theorem dX11_feed_27 : decode cX11_feed 27 = .ok (.aload_n 0, 1) := by decide +kernel
theorem dX11_feed_28 : decode cX11_feed 28 = .ok (.getfield 31, 3) := by decide +kernel
theorem dX11_feed_31 : decode cX11_feed 31 = .ok (.aload_n 0, 1) := by decide +kernel
theorem dX11_feed_32 : decode cX11_feed 32 = .ok (.dup, 1) := by decide +kernel
theorem dX11_feed_33 : decode cX11_feed 33 = .ok (.getfield 156, 3) := by decide +kernel
theorem dX11_feed_36 : decode cX11_feed 36 = .ok (.dup_x1, 1) := by decide +kernel
theorem dX11_feed_37 : decode cX11_feed 37 = .ok (.iconst 1, 1) := by decide +kernel
theorem dX11_feed_38 : decode cX11_feed 38 = .ok (.iadd, 1) := by decide +kernel
theorem dX11_feed_39 : decode cX11_feed 39 = .ok (.putfield 156, 3) := by decide +kernel
theorem dX11_feed_42 : decode cX11_feed 42 = .ok (.iload_n 1, 1) := by decide +kernel
theorem dX11_feed_43 : decode cX11_feed 43 = .ok (.iastore, 1) := by decide +kernel
theorem dX11_feed_44 : decode cX11_feed 44 = .ok (.aload_n 0, 1) := by decide +kernel
theorem dX11_feed_45 : decode cX11_feed 45 = .ok (.getfield 156, 3) := by decide +kernel
theorem dX11_feed_48 : decode cX11_feed 48 = .ok (.ireturn, 1) := by decide +kernel
theorem dX11_next_0 : decode cX11_next 0 = .ok (.aload_n 0, 1) := by decide +kernel
theorem dX11_next_1 : decode cX11_next 1 = .ok (.getfield 159, 3) := by decide +kernel
theorem dX11_next_4 : decode cX11_next 4 = .ok (.aload_n 0, 1) := by decide +kernel
theorem dX11_next_5 : decode cX11_next 5 = .ok (.getfield 156, 3) := by decide +kernel
theorem dX11_next_8 : decode cX11_next 8 = .ok (.if_icmp .ge 44, 3) := by decide +kernel
theorem dX11_next_11 : decode cX11_next 11 = .ok (.aload_n 0, 1) := by decide +kernel
theorem dX11_next_12 : decode cX11_next 12 = .ok (.getfield 31, 3) := by decide +kernel
theorem dX11_next_15 : decode cX11_next 15 = .ok (.aload_n 0, 1) := by decide +kernel
theorem dX11_next_16 : decode cX11_next 16 = .ok (.getfield 159, 3) := by decide +kernel
theorem dX11_next_19 : decode cX11_next 19 = .ok (.iaload, 1) := by decide +kernel
theorem dX11_next_20 : decode cX11_next 20 = .ok (.bipush 32, 2) := by decide +kernel
theorem dX11_next_22 : decode cX11_next 22 = .ok (.if_icmp .eq 17, 3) := by decide +kernel
theorem dX11_next_25 : decode cX11_next 25 = .ok (.aload_n 0, 1) := by decide +kernel
theorem dX11_next_26 : decode cX11_next 26 = .ok (.getfield 31, 3) := by decide +kernel
theorem dX11_next_29 : decode cX11_next 29 = .ok (.aload_n 0, 1) := by decide +kernel
theorem dX11_next_30 : decode cX11_next 30 = .ok (.getfield 159, 3) := by decide +kernel
theorem dX11_next_33 : decode cX11_next 33 = .ok (.iaload, 1) := by decide +kernel
theorem dX11_next_34 : decode cX11_next 34 = .ok (.bipush 10, 2) := by decide +kernel
theorem dX11_next_36 : decode cX11_next 36 = .ok (.if_icmp .ne 16, 3) := by decide +kernel
theorem dX11_next_39 : decode cX11_next 39 = .ok (.aload_n 0, 1) := by decide +kernel
theorem dX11_next_40 : decode cX11_next 40 = .ok (.dup, 1) := by decide +kernel
theorem dX11_next_41 : decode cX11_next 41 = .ok (.getfield 159, 3) := by decide +kernel
theorem dX11_next_44 : decode cX11_next 44 = .ok (.iconst 1, 1) := by decide +kernel
theorem dX11_next_45 : decode cX11_next 45 = .ok (.iadd, 1) := by decide +kernel
theorem dX11_next_46 : decode cX11_next 46 = .ok (.putfield 159, 3) := by decide +kernel
theorem dX11_next_49 : decode cX11_next 49 = .ok (.goto (-49), 3) := by decide +kernel
theorem dX11_next_52 : decode cX11_next 52 = .ok (.aload_n 0, 1) := by decide +kernel
theorem dX11_next_53 : decode cX11_next 53 = .ok (.aload_n 0, 1) := by decide +kernel
theorem dX11_next_54 : decode cX11_next 54 = .ok (.getfield 159, 3) := by decide +kernel
theorem dX11_next_57 : decode cX11_next 57 = .ok (.putfield 162, 3) := by decide +kernel
theorem dX11_next_60 : decode cX11_next 60 = .ok (.aload_n 0, 1) := by decide +kernel
theorem dX11_next_61 : decode cX11_next 61 = .ok (.getfield 159, 3) := by decide +kernel
theorem dX11_next_64 : decode cX11_next 64 = .ok (.aload_n 0, 1) := by decide +kernel
theorem dX11_next_65 : decode cX11_next 65 = .ok (.getfield 156, 3) := by decide +kernel
theorem dX11_next_68 : decode cX11_next 68 = .ok (.if_icmp .ne 9, 3) := by decide +kernel
theorem dX11_next_71 : decode cX11_next 71 = .ok (.aload_n 0, 1) := by decide +kernel
theorem dX11_next_72 : decode cX11_next 72 = .ok (.iconst 0, 1) := by decide +kernel
theorem dX11_next_73 : decode cX11_next 73 = .ok (.putfield 165, 3) := by decide +kernel
theorem dX11_next_76 : decode cX11_next 76 = .ok (.return_, 1) := by decide +kernel
theorem dX11_next_77 : decode cX11_next 77 = .ok (.aload_n 0, 1) := by decide +kernel
theorem dX11_next_78 : decode cX11_next 78 = .ok (.getfield 31, 3) := by decide +kernel
theorem dX11_next_81 : decode cX11_next 81 = .ok (.aload_n 0, 1) := by decide +kernel
theorem dX11_next_82 : decode cX11_next 82 = .ok (.getfield 159, 3) := by decide +kernel
theorem dX11_next_85 : decode cX11_next 85 = .ok (.iaload, 1) := by decide +kernel
theorem dX11_next_86 : decode cX11_next 86 = .ok (.istore_n 1, 1) := by decide +kernel
theorem dX11_next_87 : decode cX11_next 87 = .ok (.iload_n 1, 1) := by decide +kernel
theorem dX11_next_88 : decode cX11_next 88 = .ok (.invokestatic 168, 3) := by decide +kernel
theorem dX11_next_91 : decode cX11_next 91 = .ok (.ifCond .eq 107, 3) := by decide +kernel
theorem dX11_next_94 : decode cX11_next 94 = .ok (.aload_n 0, 1) := by decide +kernel
theorem dX11_next_95 : decode cX11_next 95 = .ok (.iconst 0, 1) := by decide +kernel
theorem dX11_next_96 : decode cX11_next 96 = .ok (.putfield 171, 3) := by decide +kernel
theorem dX11_next_99 : decode cX11_next 99 = .ok (.aload_n 0, 1) := by decide +kernel
theorem dX11_next_100 : decode cX11_next 100 = .ok (.getfield 159, 3) := by decide +kernel
theorem dX11_next_103 : decode cX11_next 103 = .ok (.aload_n 0, 1) := by decide +kernel
theorem dX11_next_104 : decode cX11_next 104 = .ok (.getfield 156, 3) := by decide +kernel
theorem dX11_next_107 : decode cX11_next 107 = .ok (.if_icmp .ge 68, 3) := by decide +kernel
theorem dX11_next_110 : decode cX11_next 110 = .ok (.aload_n 0, 1) := by decide +kernel
theorem dX11_next_111 : decode cX11_next 111 = .ok (.getfield 31, 3) := by decide +kernel
theorem dX11_next_114 : decode cX11_next 114 = .ok (.aload_n 0, 1) := by decide +kernel
theorem dX11_next_115 : decode cX11_next 115 = .ok (.getfield 159, 3) := by decide +kernel
theorem dX11_next_118 : decode cX11_next 118 = .ok (.iaload, 1) := by decide +kernel
theorem dX11_next_119 : decode cX11_next 119 = .ok (.invokestatic 168, 3) := by decide +kernel
theorem dX11_next_122 : decode cX11_next 122 = .ok (.ifCond .eq 53, 3) := by decide +kernel
theorem dX11_next_125 : decode cX11_next 125 = .ok (.aload_n 0, 1) := by decide +kernel
theorem dX11_next_126 : decode cX11_next 126 = .ok (.getfield 159, 3) := by decide +kernel
theorem dX11_next_129 : decode cX11_next 129 = .ok (.aload_n 0, 1) := by decide +kernel
theorem dX11_next_130 : decode cX11_next 130 = .ok (.getfield 162, 3) := by decide +kernel
theorem dX11_next_133 : decode cX11_next 133 = .ok (.isub, 1) := by decide +kernel
theorem dX11_next_134 : decode cX11_next 134 = .ok (.iconst 4, 1) := by decide +kernel
theorem dX11_next_135 : decode cX11_next 135 = .ok (.if_icmp .ge 27, 3) := by decide +kernel
theorem dX11_next_138 : decode cX11_next 138 = .ok (.aload_n 0, 1) := by decide +kernel
theorem dX11_next_139 : decode cX11_next 139 = .ok (.bipush 10, 2) := by decide +kernel
theorem dX11_next_141 : decode cX11_next 141 = .ok (.aload_n 0, 1) := by decide +kernel
theorem dX11_next_142 : decode cX11_next 142 = .ok (.getfield 171, 3) := by decide +kernel
theorem dX11_next_145 : decode cX11_next 145 = .ok (.imul, 1) := by decide +kernel
theorem dX11_next_146 : decode cX11_next 146 = .ok (.aload_n 0, 1) := by decide +kernel
theorem dX11_next_147 : decode cX11_next 147 = .ok (.getfield 31, 3) := by decide +kernel
theorem dX11_next_150 : decode cX11_next 150 = .ok (.aload_n 0, 1) := by decide +kernel
theorem dX11_next_151 : decode cX11_next 151 = .ok (.getfield 159, 3) := by decide +kernel
theorem dX11_next_154 : decode cX11_next 154 = .ok (.iaload, 1) := by decide +kernel
theorem dX11_next_155 : decode cX11_next 155 = .ok (.iadd, 1) := by decide +kernel
theorem dX11_next_156 : decode cX11_next 156 = .ok (.bipush 48, 2) := by decide +kernel
theorem dX11_next_158 : decode cX11_next 158 = .ok (.isub, 1) := by decide +kernel
theorem dX11_next_159 : decode cX11_next 159 = .ok (.putfield 171, 3) := by decide +kernel
theorem dX11_next_162 : decode cX11_next 162 = .ok (.aload_n 0, 1) := by decide +kernel
theorem dX11_next_163 : decode cX11_next 163 = .ok (.dup, 1) := by decide +kernel
theorem dX11_next_164 : decode cX11_next 164 = .ok (.getfield 159, 3) := by decide +kernel
theorem dX11_next_167 : decode cX11_next 167 = .ok (.iconst 1, 1) := by decide +kernel
theorem dX11_next_168 : decode cX11_next 168 = .ok (.iadd, 1) := by decide +kernel
theorem dX11_next_169 : decode cX11_next 169 = .ok (.putfield 159, 3) := by decide +kernel
theorem dX11_next_172 : decode cX11_next 172 = .ok (.goto (-73), 3) := by decide +kernel
theorem dX11_next_175 : decode cX11_next 175 = .ok (.aload_n 0, 1) := by decide +kernel
theorem dX11_next_176 : decode cX11_next 176 = .ok (.aload_n 0, 1) := by decide +kernel
theorem dX11_next_177 : decode cX11_next 177 = .ok (.getfield 159, 3) := by decide +kernel
theorem dX11_next_180 : decode cX11_next 180 = .ok (.aload_n 0, 1) := by decide +kernel
theorem dX11_next_181 : decode cX11_next 181 = .ok (.getfield 162, 3) := by decide +kernel
theorem dX11_next_184 : decode cX11_next 184 = .ok (.isub, 1) := by decide +kernel
theorem dX11_next_185 : decode cX11_next 185 = .ok (.iconst 4, 1) := by decide +kernel
theorem dX11_next_186 : decode cX11_next 186 = .ok (.if_icmp .le 7, 3) := by decide +kernel
theorem dX11_next_189 : decode cX11_next 189 = .ok (.iconst 4, 1) := by decide +kernel
theorem dX11_next_190 : decode cX11_next 190 = .ok (.goto 4, 3) := by decide +kernel
theorem dX11_next_193 : decode cX11_next 193 = .ok (.iconst 1, 1) := by decide +kernel
theorem dX11_next_194 : decode cX11_next 194 = .ok (.putfield 165, 3) := by decide +kernel
theorem dX11_next_197 : decode cX11_next 197 = .ok (.return_, 1) := by decide +kernel
theorem dX11_next_198 : decode cX11_next 198 = .ok (.iload_n 1, 1) := by decide +kernel
theorem dX11_next_199 : decode cX11_next 199 = .ok (.invokestatic 174, 3) := by decide +kernel
theorem dX11_next_202 : decode cX11_next 202 = .ok (.ifCond .eq 48, 3) := by decide +kernel
theorem dX11_next_205 : decode cX11_next 205 = .ok (.aload_n 0, 1) := by decide +kernel
theorem dX11_next_206 : decode cX11_next 206 = .ok (.getfield 159, 3) := by decide +kernel
theorem dX11_next_209 : decode cX11_next 209 = .ok (.aload_n 0, 1) := by decide +kernel
theorem dX11_next_210 : decode cX11_next 210 = .ok (.getfield 156, 3) := by decide +kernel
theorem dX11_next_213 : decode cX11_next 213 = .ok (.if_icmp .ge 31, 3) := by decide +kernel
theorem dX11_next_216 : decode cX11_next 216 = .ok (.aload_n 0, 1) := by decide +kernel
theorem dX11_next_217 : decode cX11_next 217 = .ok (.getfield 31, 3) := by decide +kernel
theorem dX11_next_220 : decode cX11_next 220 = .ok (.aload_n 0, 1) := by decide +kernel
theorem dX11_next_221 : decode cX11_next 221 = .ok (.getfield 159, 3) := by decide +kernel
theorem dX11_next_224 : decode cX11_next 224 = .ok (.iaload, 1) := by decide +kernel
theorem dX11_next_225 : decode cX11_next 225 = .ok (.invokestatic 174, 3) := by decide +kernel
theorem dX11_next_228 : decode cX11_next 228 = .ok (.ifCond .eq 16, 3) := by decide +kernel
theorem dX11_next_231 : decode cX11_next 231 = .ok (.aload_n 0, 1) := by decide +kernel
theorem dX11_next_232 : decode cX11_next 232 = .ok (.dup, 1) := by decide +kernel
theorem dX11_next_233 : decode cX11_next 233 = .ok (.getfield 159, 3) := by decide +kernel
theorem dX11_next_236 : decode cX11_next 236 = .ok (.iconst 1, 1) := by decide +kernel
theorem dX11_next_237 : decode cX11_next 237 = .ok (.iadd, 1) := by decide +kernel
theorem dX11_next_238 : decode cX11_next 238 = .ok (.putfield 159, 3) := by decide +kernel
theorem dX11_next_241 : decode cX11_next 241 = .ok (.goto (-36), 3) := by decide +kernel
theorem dX11_next_244 : decode cX11_next 244 = .ok (.aload_n 0, 1) := by decide +kernel
theorem dX11_next_245 : decode cX11_next 245 = .ok (.iconst 2, 1) := by decide +kernel
theorem dX11_next_246 : decode cX11_next 246 = .ok (.putfield 165, 3) := by decide +kernel
theorem dX11_next_249 : decode cX11_next 249 = .ok (.return_, 1) := by decide +kernel
theorem dX11_next_250 : decode cX11_next 250 = .ok (.aload_n 0, 1) := by decide +kernel
theorem dX11_next_251 : decode cX11_next 251 = .ok (.dup, 1) := by decide +kernel
theorem dX11_next_252 : decode cX11_next 252 = .ok (.getfield 159, 3) := by decide +kernel
theorem dX11_next_255 : decode cX11_next 255 = .ok (.iconst 1, 1) := by decide +kernel
theorem dX11_next_256 : decode cX11_next 256 = .ok (.iadd, 1) := by decide +kernel
theorem dX11_next_257 : decode cX11_next 257 = .ok (.putfield 159, 3) := by decide +kernel
theorem dX11_next_260 : decode cX11_next 260 = .ok (.aload_n 0, 1) := by decide +kernel
theorem dX11_next_261 : decode cX11_next 261 = .ok (.iload_n 1, 1) := by decide +kernel
theorem dX11_next_262 : decode cX11_next 262 = .ok (.putfield 171, 3) := by decide +kernel
theorem dX11_next_265 : decode cX11_next 265 = .ok (.aload_n 0, 1) := by decide +kernel
theorem dX11_next_266 : decode cX11_next 266 = .ok (.iload_n 1, 1) := by decide +kernel
theorem dX11_next_267 : decode cX11_next 267 = .ok (.bipush 40, 2) := by decide +kernel
theorem dX11_next_269 : decode cX11_next 269 = .ok (.if_icmp .eq 45, 3) := by decide +kernel
theorem dX11_next_272 : decode cX11_next 272 = .ok (.iload_n 1, 1) := by decide +kernel
theorem dX11_next_273 : decode cX11_next 273 = .ok (.bipush 41, 2) := by decide +kernel
theorem dX11_next_275 : decode cX11_next 275 = .ok (.if_icmp .eq 39, 3) := by decide +kernel
theorem dX11_next_278 : decode cX11_next 278 = .ok (.iload_n 1, 1) := by decide +kernel
theorem dX11_next_279 : decode cX11_next 279 = .ok (.bipush 59, 2) := by decide +kernel
theorem dX11_next_281 : decode cX11_next 281 = .ok (.if_icmp .eq 33, 3) := by decide +kernel
theorem dX11_next_284 : decode cX11_next 284 = .ok (.iload_n 1, 1) := by decide +kernel
theorem dX11_next_285 : decode cX11_next 285 = .ok (.bipush 43, 2) := by decide +kernel
theorem dX11_next_287 : decode cX11_next 287 = .ok (.if_icmp .eq 27, 3) := by decide +kernel
theorem dX11_next_290 : decode cX11_next 290 = .ok (.iload_n 1, 1) := by decide +kernel
theorem dX11_next_291 : decode cX11_next 291 = .ok (.bipush 45, 2) := by decide +kernel
theorem dX11_next_293 : decode cX11_next 293 = .ok (.if_icmp .eq 21, 3) := by decide +kernel
theorem dX11_next_296 : decode cX11_next 296 = .ok (.iload_n 1, 1) := by decide +kernel
theorem dX11_next_297 : decode cX11_next 297 = .ok (.bipush 42, 2) := by decide +kernel
theorem dX11_next_299 : decode cX11_next 299 = .ok (.if_icmp .eq 15, 3) := by decide +kernel
theorem dX11_next_302 : decode cX11_next 302 = .ok (.iload_n 1, 1) := by decide +kernel
theorem dX11_next_303 : decode cX11_next 303 = .ok (.bipush 60, 2) := by decide +kernel
theorem dX11_next_305 : decode cX11_next 305 = .ok (.if_icmp .eq 9, 3) := by decide +kernel
theorem dX11_next_308 : decode cX11_next 308 = .ok (.iload_n 1, 1) := by decide +kernel
theorem dX11_next_309 : decode cX11_next 309 = .ok (.bipush 61, 2) := by decide +kernel
theorem dX11_next_311 : decode cX11_next 311 = .ok (.if_icmp .ne 7, 3) := by decide +kernel
theorem dX11_next_314 : decode cX11_next 314 = .ok (.iconst 3, 1) := by decide +kernel
theorem dX11_next_315 : decode cX11_next 315 = .ok (.goto 4, 3) := by decide +kernel
theorem dX11_next_318 : decode cX11_next 318 = .ok (.iconst 4, 1) := by decide +kernel
theorem dX11_next_319 : decode cX11_next 319 = .ok (.putfield 165, 3) := by decide +kernel
theorem dX11_next_322 : decode cX11_next 322 = .ok (.return_, 1) := by decide +kernel
theorem dX11_isDigit_0 : decode cX11_isDigit 0 = .ok (.iload_n 0, 1) := by decide +kernel
theorem dX11_isDigit_1 : decode cX11_isDigit 1 = .ok (.bipush 48, 2) := by decide +kernel
theorem dX11_isDigit_3 : decode cX11_isDigit 3 = .ok (.if_icmp .lt 13, 3) := by decide +kernel
theorem dX11_isDigit_6 : decode cX11_isDigit 6 = .ok (.iload_n 0, 1) := by decide +kernel
theorem dX11_isDigit_7 : decode cX11_isDigit 7 = .ok (.bipush 57, 2) := by decide +kernel
theorem dX11_isDigit_9 : decode cX11_isDigit 9 = .ok (.if_icmp .gt 7, 3) := by decide +kernel
theorem dX11_isDigit_12 : decode cX11_isDigit 12 = .ok (.iconst 1, 1) := by decide +kernel
theorem dX11_isDigit_13 : decode cX11_isDigit 13 = .ok (.goto 4, 3) := by decide +kernel
theorem dX11_isDigit_16 : decode cX11_isDigit 16 = .ok (.iconst 0, 1) := by decide +kernel
theorem dX11_isDigit_17 : decode cX11_isDigit 17 = .ok (.ireturn, 1) := by decide +kernel
theorem dX11_isLetter_0 : decode cX11_isLetter 0 = .ok (.iload_n 0, 1) := by decide +kernel
theorem dX11_isLetter_1 : decode cX11_isLetter 1 = .ok (.bipush 97, 2) := by decide +kernel
theorem dX11_isLetter_3 : decode cX11_isLetter 3 = .ok (.if_icmp .lt 13, 3) := by decide +kernel
theorem dX11_isLetter_6 : decode cX11_isLetter 6 = .ok (.iload_n 0, 1) := by decide +kernel
theorem dX11_isLetter_7 : decode cX11_isLetter 7 = .ok (.bipush 122, 2) := by decide +kernel
theorem dX11_isLetter_9 : decode cX11_isLetter 9 = .ok (.if_icmp .gt 7, 3) := by decide +kernel
theorem dX11_isLetter_12 : decode cX11_isLetter 12 = .ok (.iconst 1, 1) := by decide +kernel
theorem dX11_isLetter_13 : decode cX11_isLetter 13 = .ok (.goto 4, 3) := by decide +kernel
theorem dX11_isLetter_16 : decode cX11_isLetter 16 = .ok (.iconst 0, 1) := by decide +kernel
theorem dX11_isLetter_17 : decode cX11_isLetter 17 = .ok (.ireturn, 1) := by decide +kernel
theorem dX11_is_0 : decode cX11_is 0 = .ok (.aload_n 0, 1) := by decide +kernel
theorem dX11_is_1 : decode cX11_is 1 = .ok (.getfield 165, 3) := by decide +kernel
theorem dX11_is_4 : decode cX11_is 4 = .ok (.iconst 2, 1) := by decide +kernel
theorem dX11_is_5 : decode cX11_is 5 = .ok (.if_icmp .ne 19, 3) := by decide +kernel
theorem dX11_is_8 : decode cX11_is 8 = .ok (.aload_n 0, 1) := by decide +kernel
theorem dX11_is_9 : decode cX11_is 9 = .ok (.getfield 159, 3) := by decide +kernel
theorem dX11_is_12 : decode cX11_is 12 = .ok (.aload_n 0, 1) := by decide +kernel
theorem dX11_is_13 : decode cX11_is 13 = .ok (.getfield 162, 3) := by decide +kernel
theorem dX11_is_16 : decode cX11_is 16 = .ok (.isub, 1) := by decide +kernel
theorem dX11_is_17 : decode cX11_is 17 = .ok (.aload_n 1, 1) := by decide +kernel
theorem dX11_is_18 : decode cX11_is 18 = .ok (.invokevirtual 82, 3) := by decide +kernel
theorem dX11_is_21 : decode cX11_is 21 = .ok (.if_icmp .eq 5, 3) := by decide +kernel
theorem dX11_is_24 : decode cX11_is 24 = .ok (.iconst 0, 1) := by decide +kernel
theorem dX11_is_25 : decode cX11_is 25 = .ok (.ireturn, 1) := by decide +kernel
theorem dX11_is_26 : decode cX11_is 26 = .ok (.iconst 0, 1) := by decide +kernel
theorem dX11_is_27 : decode cX11_is 27 = .ok (.istore_n 2, 1) := by decide +kernel
theorem dX11_is_28 : decode cX11_is 28 = .ok (.iload_n 2, 1) := by decide +kernel
theorem dX11_is_29 : decode cX11_is 29 = .ok (.aload_n 1, 1) := by decide +kernel
theorem dX11_is_30 : decode cX11_is 30 = .ok (.invokevirtual 82, 3) := by decide +kernel
theorem dX11_is_33 : decode cX11_is 33 = .ok (.if_icmp .ge 30, 3) := by decide +kernel
theorem dX11_is_36 : decode cX11_is 36 = .ok (.aload_n 0, 1) := by decide +kernel
theorem dX11_is_37 : decode cX11_is 37 = .ok (.getfield 31, 3) := by decide +kernel
theorem dX11_is_40 : decode cX11_is 40 = .ok (.aload_n 0, 1) := by decide +kernel
theorem dX11_is_41 : decode cX11_is 41 = .ok (.getfield 162, 3) := by decide +kernel
theorem dX11_is_44 : decode cX11_is 44 = .ok (.iload_n 2, 1) := by decide +kernel
theorem dX11_is_45 : decode cX11_is 45 = .ok (.iadd, 1) := by decide +kernel
theorem dX11_is_46 : decode cX11_is 46 = .ok (.iaload, 1) := by decide +kernel
theorem dX11_is_47 : decode cX11_is 47 = .ok (.aload_n 1, 1) := by decide +kernel
theorem dX11_is_48 : decode cX11_is 48 = .ok (.iload_n 2, 1) := by decide +kernel
theorem dX11_is_49 : decode cX11_is 49 = .ok (.invokevirtual 88, 3) := by decide +kernel
theorem dX11_is_52 : decode cX11_is 52 = .ok (.if_icmp .eq 5, 3) := by decide +kernel
theorem dX11_is_55 : decode cX11_is 55 = .ok (.iconst 0, 1) := by decide +kernel
theorem dX11_is_56 : decode cX11_is 56 = .ok (.ireturn, 1) := by decide +kernel
theorem dX11_is_57 : decode cX11_is 57 = .ok (.iinc 2 1, 3) := by decide +kernel
theorem dX11_is_60 : decode cX11_is 60 = .ok (.goto (-32), 3) := by decide +kernel
theorem dX11_is_63 : decode cX11_is 63 = .ok (.iconst 1, 1) := by decide +kernel
theorem dX11_is_64 : decode cX11_is 64 = .ok (.ireturn, 1) := by decide +kernel
theorem dX11_is__0 : decode cX11_is_ 0 = .ok (.aload_n 0, 1) := by decide +kernel
theorem dX11_is__1 : decode cX11_is_ 1 = .ok (.getfield 165, 3) := by decide +kernel
theorem dX11_is__4 : decode cX11_is_ 4 = .ok (.iconst 3, 1) := by decide +kernel
theorem dX11_is__5 : decode cX11_is_ 5 = .ok (.if_icmp .ne 15, 3) := by decide +kernel
theorem dX11_is__8 : decode cX11_is_ 8 = .ok (.aload_n 0, 1) := by decide +kernel
theorem dX11_is__9 : decode cX11_is_ 9 = .ok (.getfield 171, 3) := by decide +kernel
theorem dX11_is__12 : decode cX11_is_ 12 = .ok (.iload_n 1, 1) := by decide +kernel
theorem dX11_is__13 : decode cX11_is_ 13 = .ok (.if_icmp .ne 7, 3) := by decide +kernel
theorem dX11_is__16 : decode cX11_is_ 16 = .ok (.iconst 1, 1) := by decide +kernel
theorem dX11_is__17 : decode cX11_is_ 17 = .ok (.goto 4, 3) := by decide +kernel
theorem dX11_is__20 : decode cX11_is_ 20 = .ok (.iconst 0, 1) := by decide +kernel
theorem dX11_is__21 : decode cX11_is_ 21 = .ok (.ireturn, 1) := by decide +kernel
theorem dX11_name_0 : decode cX11_name 0 = .ok (.aload_n 0, 1) := by decide +kernel
theorem dX11_name_1 : decode cX11_name 1 = .ok (.ldc 177, 2) := by decide +kernel
theorem dX11_name_3 : decode cX11_name 3 = .ok (.invokevirtual 178, 3) := by decide +kernel
theorem dX11_name_6 : decode cX11_name 6 = .ok (.ifCond .eq 5, 3) := by decide +kernel
theorem dX11_name_9 : decode cX11_name 9 = .ok (.iconst 1, 1) := by decide +kernel
theorem dX11_name_10 : decode cX11_name 10 = .ok (.ireturn, 1) := by decide +kernel
theorem dX11_name_11 : decode cX11_name 11 = .ok (.aload_n 0, 1) := by decide +kernel
theorem dX11_name_12 : decode cX11_name 12 = .ok (.ldc 182, 2) := by decide +kernel
theorem dX11_name_14 : decode cX11_name 14 = .ok (.invokevirtual 178, 3) := by decide +kernel
theorem dX11_name_17 : decode cX11_name 17 = .ok (.ifCond .eq 5, 3) := by decide +kernel
theorem dX11_name_20 : decode cX11_name 20 = .ok (.iconst 2, 1) := by decide +kernel
theorem dX11_name_21 : decode cX11_name 21 = .ok (.ireturn, 1) := by decide +kernel
theorem dX11_name_22 : decode cX11_name 22 = .ok (.aload_n 0, 1) := by decide +kernel
theorem dX11_name_23 : decode cX11_name 23 = .ok (.ldc 183, 2) := by decide +kernel
theorem dX11_name_25 : decode cX11_name 25 = .ok (.invokevirtual 178, 3) := by decide +kernel
theorem dX11_name_28 : decode cX11_name 28 = .ok (.ifCond .eq 5, 3) := by decide +kernel
theorem dX11_name_31 : decode cX11_name 31 = .ok (.iconst 3, 1) := by decide +kernel
theorem dX11_name_32 : decode cX11_name 32 = .ok (.ireturn, 1) := by decide +kernel
theorem dX11_name_33 : decode cX11_name 33 = .ok (.aload_n 0, 1) := by decide +kernel
theorem dX11_name_34 : decode cX11_name 34 = .ok (.ldc 185, 2) := by decide +kernel
theorem dX11_name_36 : decode cX11_name 36 = .ok (.invokevirtual 178, 3) := by decide +kernel
theorem dX11_name_39 : decode cX11_name 39 = .ok (.ifCond .eq 5, 3) := by decide +kernel
theorem dX11_name_42 : decode cX11_name 42 = .ok (.iconst 4, 1) := by decide +kernel
theorem dX11_name_43 : decode cX11_name 43 = .ok (.ireturn, 1) := by decide +kernel
theorem dX11_name_44 : decode cX11_name 44 = .ok (.aload_n 0, 1) := by decide +kernel
theorem dX11_name_45 : decode cX11_name 45 = .ok (.ldc 187, 2) := by decide +kernel
theorem dX11_name_47 : decode cX11_name 47 = .ok (.invokevirtual 178, 3) := by decide +kernel
theorem dX11_name_50 : decode cX11_name 50 = .ok (.ifCond .eq 5, 3) := by decide +kernel
theorem dX11_name_53 : decode cX11_name 53 = .ok (.iconst 5, 1) := by decide +kernel
theorem dX11_name_54 : decode cX11_name 54 = .ok (.ireturn, 1) := by decide +kernel
theorem dX11_name_55 : decode cX11_name 55 = .ok (.aload_n 0, 1) := by decide +kernel
theorem dX11_name_56 : decode cX11_name 56 = .ok (.ldc 189, 2) := by decide +kernel
theorem dX11_name_58 : decode cX11_name 58 = .ok (.invokevirtual 178, 3) := by decide +kernel
theorem dX11_name_61 : decode cX11_name 61 = .ok (.ifCond .eq 6, 3) := by decide +kernel
theorem dX11_name_64 : decode cX11_name 64 = .ok (.bipush 6, 2) := by decide +kernel
theorem dX11_name_66 : decode cX11_name 66 = .ok (.ireturn, 1) := by decide +kernel
theorem dX11_name_67 : decode cX11_name 67 = .ok (.iconst 0, 1) := by decide +kernel
theorem dX11_name_68 : decode cX11_name 68 = .ok (.ireturn, 1) := by decide +kernel
theorem dX11_put_0 : decode cX11_put 0 = .ok (.aload_n 0, 1) := by decide +kernel
theorem dX11_put_1 : decode cX11_put 1 = .ok (.getfield 34, 3) := by decide +kernel
theorem dX11_put_4 : decode cX11_put 4 = .ok (.sipush 170, 3) := by decide +kernel
theorem dX11_put_7 : decode cX11_put 7 = .ok (.aload_n 0, 1) := by decide +kernel
theorem dX11_put_8 : decode cX11_put 8 = .ok (.getfield 190, 3) := by decide +kernel
theorem dX11_put_11 : decode cX11_put 11 = .ok (.imul, 1) := by decide +kernel
theorem dX11_put_12 : decode cX11_put 12 = .ok (.aload_n 0, 1) := by decide +kernel
theorem dX11_put_13 : decode cX11_put 13 = .ok (.dup, 1) := by decide +kernel
theorem dX11_put_14 : decode cX11_put 14 = .ok (.getfield 193, 3) := by decide +kernel
theorem dX11_put_17 : decode cX11_put 17 = .ok (.dup_x1, 1) := by decide +kernel
theorem dX11_put_18 : decode cX11_put 18 = .ok (.iconst 1, 1) := by decide +kernel
theorem dX11_put_19 : decode cX11_put 19 = .ok (.iadd, 1) := by decide +kernel
theorem dX11_put_20 : decode cX11_put 20 = .ok (.putfield 193, 3) := by decide +kernel
theorem dX11_put_23 : decode cX11_put 23 = .ok (.iadd, 1) := by decide +kernel
theorem dX11_put_24 : decode cX11_put 24 = .ok (.iload_n 1, 1) := by decide +kernel
theorem dX11_put_25 : decode cX11_put 25 = .ok (.iastore, 1) := by decide +kernel
theorem dX11_put_26 : decode cX11_put 26 = .ok (.return_, 1) := by decide +kernel
theorem dX11_any_0 : decode cX11_any 0 = .ok (.aload_n 0, 1) := by decide +kernel
theorem dX11_any_1 : decode cX11_any 1 = .ok (.invokevirtual 196, 3) := by decide +kernel
theorem dX11_any_4 : decode cX11_any 4 = .ok (.ifCond .ne 5, 3) := by decide +kernel
theorem dX11_any_7 : decode cX11_any 7 = .ok (.iconst 0, 1) := by decide +kernel
theorem dX11_any_8 : decode cX11_any 8 = .ok (.ireturn, 1) := by decide +kernel
theorem dX11_any_9 : decode cX11_any 9 = .ok (.aload_n 0, 1) := by decide +kernel
theorem dX11_any_10 : decode cX11_any 10 = .ok (.ldc 200, 2) := by decide +kernel
theorem dX11_any_12 : decode cX11_any 12 = .ok (.invokevirtual 178, 3) := by decide +kernel
theorem dX11_any_15 : decode cX11_any 15 = .ok (.ifCond .eq 25, 3) := by decide +kernel
theorem dX11_any_18 : decode cX11_any 18 = .ok (.aload_n 0, 1) := by decide +kernel
theorem dX11_any_19 : decode cX11_any 19 = .ok (.invokevirtual 202, 3) := by decide +kernel
theorem dX11_any_22 : decode cX11_any 22 = .ok (.aload_n 0, 1) := by decide +kernel
theorem dX11_any_23 : decode cX11_any 23 = .ok (.invokevirtual 196, 3) := by decide +kernel
theorem dX11_any_26 : decode cX11_any 26 = .ok (.ifCond .ne 5, 3) := by decide +kernel
theorem dX11_any_29 : decode cX11_any 29 = .ok (.iconst 0, 1) := by decide +kernel
theorem dX11_any_30 : decode cX11_any 30 = .ok (.ireturn, 1) := by decide +kernel
theorem dX11_any_31 : decode cX11_any 31 = .ok (.aload_n 0, 1) := by decide +kernel
theorem dX11_any_32 : decode cX11_any 32 = .ok (.bipush (-11), 2) := by decide +kernel
theorem dX11_any_34 : decode cX11_any 34 = .ok (.invokevirtual 205, 3) := by decide +kernel
theorem dX11_any_37 : decode cX11_any 37 = .ok (.goto (-28), 3) := by decide +kernel
theorem dX11_any_40 : decode cX11_any 40 = .ok (.iconst 1, 1) := by decide +kernel
theorem dX11_any_41 : decode cX11_any 41 = .ok (.ireturn, 1) := by decide +kernel
theorem dX11_both_0 : decode cX11_both 0 = .ok (.aload_n 0, 1) := by decide +kernel
theorem dX11_both_1 : decode cX11_both 1 = .ok (.invokevirtual 209, 3) := by decide +kernel
theorem dX11_both_4 : decode cX11_both 4 = .ok (.ifCond .ne 5, 3) := by decide +kernel
theorem dX11_both_7 : decode cX11_both 7 = .ok (.iconst 0, 1) := by decide +kernel
theorem dX11_both_8 : decode cX11_both 8 = .ok (.ireturn, 1) := by decide +kernel
theorem dX11_both_9 : decode cX11_both 9 = .ok (.aload_n 0, 1) := by decide +kernel
theorem dX11_both_10 : decode cX11_both 10 = .ok (.ldc 212, 2) := by decide +kernel
theorem dX11_both_12 : decode cX11_both 12 = .ok (.invokevirtual 178, 3) := by decide +kernel
theorem dX11_both_15 : decode cX11_both 15 = .ok (.ifCond .eq 25, 3) := by decide +kernel
theorem dX11_both_18 : decode cX11_both 18 = .ok (.aload_n 0, 1) := by decide +kernel
theorem dX11_both_19 : decode cX11_both 19 = .ok (.invokevirtual 202, 3) := by decide +kernel
theorem dX11_both_22 : decode cX11_both 22 = .ok (.aload_n 0, 1) := by decide +kernel
theorem dX11_both_23 : decode cX11_both 23 = .ok (.invokevirtual 209, 3) := by decide +kernel
theorem dX11_both_26 : decode cX11_both 26 = .ok (.ifCond .ne 5, 3) := by decide +kernel
theorem dX11_both_29 : decode cX11_both 29 = .ok (.iconst 0, 1) := by decide +kernel
theorem dX11_both_30 : decode cX11_both 30 = .ok (.ireturn, 1) := by decide +kernel
theorem dX11_both_31 : decode cX11_both 31 = .ok (.aload_n 0, 1) := by decide +kernel
theorem dX11_both_32 : decode cX11_both 32 = .ok (.bipush (-12), 2) := by decide +kernel
theorem dX11_both_34 : decode cX11_both 34 = .ok (.invokevirtual 205, 3) := by decide +kernel
theorem dX11_both_37 : decode cX11_both 37 = .ok (.goto (-28), 3) := by decide +kernel
theorem dX11_both_40 : decode cX11_both 40 = .ok (.iconst 1, 1) := by decide +kernel
theorem dX11_both_41 : decode cX11_both 41 = .ok (.ireturn, 1) := by decide +kernel
theorem dX11_not_0 : decode cX11_not 0 = .ok (.aload_n 0, 1) := by decide +kernel
theorem dX11_not_1 : decode cX11_not 1 = .ok (.ldc 214, 2) := by decide +kernel
theorem dX11_not_3 : decode cX11_not 3 = .ok (.invokevirtual 178, 3) := by decide +kernel
theorem dX11_not_6 : decode cX11_not 6 = .ok (.ifCond .eq 54, 3) := by decide +kernel
theorem dX11_not_9 : decode cX11_not 9 = .ok (.aload_n 0, 1) := by decide +kernel
theorem dX11_not_10 : decode cX11_not 10 = .ok (.getfield 215, 3) := by decide +kernel
theorem dX11_not_13 : decode cX11_not 13 = .ok (.iconst 5, 1) := by decide +kernel
theorem dX11_not_14 : decode cX11_not 14 = .ok (.if_icmp .ne 5, 3) := by decide +kernel
theorem dX11_not_17 : decode cX11_not 17 = .ok (.iconst 0, 1) := by decide +kernel
theorem dX11_not_18 : decode cX11_not 18 = .ok (.ireturn, 1) := by decide +kernel
theorem dX11_not_19 : decode cX11_not 19 = .ok (.aload_n 0, 1) := by decide +kernel
theorem dX11_not_20 : decode cX11_not 20 = .ok (.dup, 1) := by decide +kernel
theorem dX11_not_21 : decode cX11_not 21 = .ok (.getfield 215, 3) := by decide +kernel
theorem dX11_not_24 : decode cX11_not 24 = .ok (.iconst 1, 1) := by decide +kernel
theorem dX11_not_25 : decode cX11_not 25 = .ok (.iadd, 1) := by decide +kernel
theorem dX11_not_26 : decode cX11_not 26 = .ok (.putfield 215, 3) := by decide +kernel
theorem dX11_not_29 : decode cX11_not 29 = .ok (.aload_n 0, 1) := by decide +kernel
theorem dX11_not_30 : decode cX11_not 30 = .ok (.invokevirtual 202, 3) := by decide +kernel
theorem dX11_not_33 : decode cX11_not 33 = .ok (.aload_n 0, 1) := by decide +kernel
theorem dX11_not_34 : decode cX11_not 34 = .ok (.invokevirtual 209, 3) := by decide +kernel
theorem dX11_not_37 : decode cX11_not 37 = .ok (.ifCond .ne 5, 3) := by decide +kernel
theorem dX11_not_40 : decode cX11_not 40 = .ok (.iconst 0, 1) := by decide +kernel
theorem dX11_not_41 : decode cX11_not 41 = .ok (.ireturn, 1) := by decide +kernel
theorem dX11_not_42 : decode cX11_not 42 = .ok (.aload_n 0, 1) := by decide +kernel
theorem dX11_not_43 : decode cX11_not 43 = .ok (.dup, 1) := by decide +kernel
theorem dX11_not_44 : decode cX11_not 44 = .ok (.getfield 215, 3) := by decide +kernel
theorem dX11_not_47 : decode cX11_not 47 = .ok (.iconst 1, 1) := by decide +kernel
theorem dX11_not_48 : decode cX11_not 48 = .ok (.isub, 1) := by decide +kernel
theorem dX11_not_49 : decode cX11_not 49 = .ok (.putfield 215, 3) := by decide +kernel
theorem dX11_not_52 : decode cX11_not 52 = .ok (.aload_n 0, 1) := by decide +kernel
theorem dX11_not_53 : decode cX11_not 53 = .ok (.bipush (-13), 2) := by decide +kernel
theorem dX11_not_55 : decode cX11_not 55 = .ok (.invokevirtual 205, 3) := by decide +kernel
theorem dX11_not_58 : decode cX11_not 58 = .ok (.iconst 1, 1) := by decide +kernel
theorem dX11_not_59 : decode cX11_not 59 = .ok (.ireturn, 1) := by decide +kernel
theorem dX11_not_60 : decode cX11_not 60 = .ok (.aload_n 0, 1) := by decide +kernel
theorem dX11_not_61 : decode cX11_not 61 = .ok (.invokevirtual 218, 3) := by decide +kernel
theorem dX11_not_64 : decode cX11_not 64 = .ok (.ifCond .ne 5, 3) := by decide +kernel
theorem dX11_not_67 : decode cX11_not 67 = .ok (.iconst 0, 1) := by decide +kernel
theorem dX11_not_68 : decode cX11_not 68 = .ok (.ireturn, 1) := by decide +kernel
theorem dX11_not_69 : decode cX11_not 69 = .ok (.aload_n 0, 1) := by decide +kernel
theorem dX11_not_70 : decode cX11_not 70 = .ok (.bipush 60, 2) := by decide +kernel
theorem dX11_not_72 : decode cX11_not 72 = .ok (.invokevirtual 221, 3) := by decide +kernel
theorem dX11_not_75 : decode cX11_not 75 = .ok (.ifCond .ne 12, 3) := by decide +kernel
theorem dX11_not_78 : decode cX11_not 78 = .ok (.aload_n 0, 1) := by decide +kernel
theorem dX11_not_79 : decode cX11_not 79 = .ok (.bipush 61, 2) := by decide +kernel
theorem dX11_not_81 : decode cX11_not 81 = .ok (.invokevirtual 221, 3) := by decide +kernel
theorem dX11_not_84 : decode cX11_not 84 = .ok (.ifCond .eq 38, 3) := by decide +kernel
theorem dX11_not_87 : decode cX11_not 87 = .ok (.aload_n 0, 1) := by decide +kernel
theorem dX11_not_88 : decode cX11_not 88 = .ok (.bipush 60, 2) := by decide +kernel
theorem dX11_not_90 : decode cX11_not 90 = .ok (.invokevirtual 221, 3) := by decide +kernel
theorem dX11_not_93 : decode cX11_not 93 = .ok (.ifCond .eq 8, 3) := by decide +kernel
theorem dX11_not_96 : decode cX11_not 96 = .ok (.bipush (-14), 2) := by decide +kernel
theorem dX11_not_98 : decode cX11_not 98 = .ok (.goto 5, 3) := by decide +kernel
theorem dX11_not_101 : decode cX11_not 101 = .ok (.bipush (-15), 2) := by decide +kernel
theorem dX11_not_103 : decode cX11_not 103 = .ok (.istore_n 1, 1) := by decide +kernel
theorem dX11_not_104 : decode cX11_not 104 = .ok (.aload_n 0, 1) := by decide +kernel
theorem dX11_not_105 : decode cX11_not 105 = .ok (.invokevirtual 202, 3) := by decide +kernel
theorem dX11_not_108 : decode cX11_not 108 = .ok (.aload_n 0, 1) := by decide +kernel
theorem dX11_not_109 : decode cX11_not 109 = .ok (.invokevirtual 218, 3) := by decide +kernel
theorem dX11_not_112 : decode cX11_not 112 = .ok (.ifCond .ne 5, 3) := by decide +kernel
theorem dX11_not_115 : decode cX11_not 115 = .ok (.iconst 0, 1) := by decide +kernel
theorem dX11_not_116 : decode cX11_not 116 = .ok (.ireturn, 1) := by decide +kernel
theorem dX11_not_117 : decode cX11_not 117 = .ok (.aload_n 0, 1) := by decide +kernel
theorem dX11_not_118 : decode cX11_not 118 = .ok (.iload_n 1, 1) := by decide +kernel
theorem dX11_not_119 : decode cX11_not 119 = .ok (.invokevirtual 205, 3) := by decide +kernel
theorem dX11_not_122 : decode cX11_not 122 = .ok (.iconst 1, 1) := by decide +kernel
theorem dX11_not_123 : decode cX11_not 123 = .ok (.ireturn, 1) := by decide +kernel
theorem dX11_sum_0 : decode cX11_sum 0 = .ok (.aload_n 0, 1) := by decide +kernel
theorem dX11_sum_1 : decode cX11_sum 1 = .ok (.invokevirtual 224, 3) := by decide +kernel
theorem dX11_sum_4 : decode cX11_sum 4 = .ok (.ifCond .ne 5, 3) := by decide +kernel
theorem dX11_sum_7 : decode cX11_sum 7 = .ok (.iconst 0, 1) := by decide +kernel
theorem dX11_sum_8 : decode cX11_sum 8 = .ok (.ireturn, 1) := by decide +kernel
theorem dX11_sum_9 : decode cX11_sum 9 = .ok (.aload_n 0, 1) := by decide +kernel
theorem dX11_sum_10 : decode cX11_sum 10 = .ok (.bipush 43, 2) := by decide +kernel
theorem dX11_sum_12 : decode cX11_sum 12 = .ok (.invokevirtual 221, 3) := by decide +kernel
theorem dX11_sum_15 : decode cX11_sum 15 = .ok (.ifCond .ne 12, 3) := by decide +kernel
theorem dX11_sum_18 : decode cX11_sum 18 = .ok (.aload_n 0, 1) := by decide +kernel
theorem dX11_sum_19 : decode cX11_sum 19 = .ok (.bipush 45, 2) := by decide +kernel
theorem dX11_sum_21 : decode cX11_sum 21 = .ok (.invokevirtual 221, 3) := by decide +kernel
theorem dX11_sum_24 : decode cX11_sum 24 = .ok (.ifCond .eq 41, 3) := by decide +kernel
theorem dX11_sum_27 : decode cX11_sum 27 = .ok (.aload_n 0, 1) := by decide +kernel
theorem dX11_sum_28 : decode cX11_sum 28 = .ok (.bipush 43, 2) := by decide +kernel
theorem dX11_sum_30 : decode cX11_sum 30 = .ok (.invokevirtual 221, 3) := by decide +kernel
theorem dX11_sum_33 : decode cX11_sum 33 = .ok (.ifCond .eq 8, 3) := by decide +kernel
theorem dX11_sum_36 : decode cX11_sum 36 = .ok (.bipush (-16), 2) := by decide +kernel
theorem dX11_sum_38 : decode cX11_sum 38 = .ok (.goto 5, 3) := by decide +kernel
theorem dX11_sum_41 : decode cX11_sum 41 = .ok (.bipush (-17), 2) := by decide +kernel
theorem dX11_sum_43 : decode cX11_sum 43 = .ok (.istore_n 1, 1) := by decide +kernel
theorem dX11_sum_44 : decode cX11_sum 44 = .ok (.aload_n 0, 1) := by decide +kernel
theorem dX11_sum_45 : decode cX11_sum 45 = .ok (.invokevirtual 202, 3) := by decide +kernel
theorem dX11_sum_48 : decode cX11_sum 48 = .ok (.aload_n 0, 1) := by decide +kernel
theorem dX11_sum_49 : decode cX11_sum 49 = .ok (.invokevirtual 224, 3) := by decide +kernel
theorem dX11_sum_52 : decode cX11_sum 52 = .ok (.ifCond .ne 5, 3) := by decide +kernel
theorem dX11_sum_55 : decode cX11_sum 55 = .ok (.iconst 0, 1) := by decide +kernel
theorem dX11_sum_56 : decode cX11_sum 56 = .ok (.ireturn, 1) := by decide +kernel
theorem dX11_sum_57 : decode cX11_sum 57 = .ok (.aload_n 0, 1) := by decide +kernel
theorem dX11_sum_58 : decode cX11_sum 58 = .ok (.iload_n 1, 1) := by decide +kernel
theorem dX11_sum_59 : decode cX11_sum 59 = .ok (.invokevirtual 205, 3) := by decide +kernel
theorem dX11_sum_62 : decode cX11_sum 62 = .ok (.goto (-53), 3) := by decide +kernel
theorem dX11_sum_65 : decode cX11_sum 65 = .ok (.iconst 1, 1) := by decide +kernel
theorem dX11_sum_66 : decode cX11_sum 66 = .ok (.ireturn, 1) := by decide +kernel
theorem dX11_term_0 : decode cX11_term 0 = .ok (.aload_n 0, 1) := by decide +kernel
theorem dX11_term_1 : decode cX11_term 1 = .ok (.invokevirtual 227, 3) := by decide +kernel
theorem dX11_term_4 : decode cX11_term 4 = .ok (.ifCond .ne 5, 3) := by decide +kernel
theorem dX11_term_7 : decode cX11_term 7 = .ok (.iconst 0, 1) := by decide +kernel
theorem dX11_term_8 : decode cX11_term 8 = .ok (.ireturn, 1) := by decide +kernel
theorem dX11_term_9 : decode cX11_term 9 = .ok (.aload_n 0, 1) := by decide +kernel
theorem dX11_term_10 : decode cX11_term 10 = .ok (.bipush 42, 2) := by decide +kernel
theorem dX11_term_12 : decode cX11_term 12 = .ok (.invokevirtual 221, 3) := by decide +kernel
theorem dX11_term_15 : decode cX11_term 15 = .ok (.ifCond .eq 25, 3) := by decide +kernel
theorem dX11_term_18 : decode cX11_term 18 = .ok (.aload_n 0, 1) := by decide +kernel
theorem dX11_term_19 : decode cX11_term 19 = .ok (.invokevirtual 202, 3) := by decide +kernel
theorem dX11_term_22 : decode cX11_term 22 = .ok (.aload_n 0, 1) := by decide +kernel
theorem dX11_term_23 : decode cX11_term 23 = .ok (.invokevirtual 227, 3) := by decide +kernel
theorem dX11_term_26 : decode cX11_term 26 = .ok (.ifCond .ne 5, 3) := by decide +kernel
theorem dX11_term_29 : decode cX11_term 29 = .ok (.iconst 0, 1) := by decide +kernel
theorem dX11_term_30 : decode cX11_term 30 = .ok (.ireturn, 1) := by decide +kernel
theorem dX11_term_31 : decode cX11_term 31 = .ok (.aload_n 0, 1) := by decide +kernel
theorem dX11_term_32 : decode cX11_term 32 = .ok (.bipush (-18), 2) := by decide +kernel
theorem dX11_term_34 : decode cX11_term 34 = .ok (.invokevirtual 205, 3) := by decide +kernel
theorem dX11_term_37 : decode cX11_term 37 = .ok (.goto (-28), 3) := by decide +kernel
theorem dX11_term_40 : decode cX11_term 40 = .ok (.iconst 1, 1) := by decide +kernel
theorem dX11_term_41 : decode cX11_term 41 = .ok (.ireturn, 1) := by decide +kernel
theorem dX11_one_0 : decode cX11_one 0 = .ok (.aload_n 0, 1) := by decide +kernel
theorem dX11_one_1 : decode cX11_one 1 = .ok (.getfield 165, 3) := by decide +kernel
theorem dX11_one_4 : decode cX11_one 4 = .ok (.iconst 1, 1) := by decide +kernel
theorem dX11_one_5 : decode cX11_one 5 = .ok (.if_icmp .ne 17, 3) := by decide +kernel
theorem dX11_one_8 : decode cX11_one 8 = .ok (.aload_n 0, 1) := by decide +kernel
theorem dX11_one_9 : decode cX11_one 9 = .ok (.aload_n 0, 1) := by decide +kernel
theorem dX11_one_10 : decode cX11_one 10 = .ok (.getfield 171, 3) := by decide +kernel
theorem dX11_one_13 : decode cX11_one 13 = .ok (.invokevirtual 205, 3) := by decide +kernel
theorem dX11_one_16 : decode cX11_one 16 = .ok (.aload_n 0, 1) := by decide +kernel
theorem dX11_one_17 : decode cX11_one 17 = .ok (.invokevirtual 202, 3) := by decide +kernel
theorem dX11_one_20 : decode cX11_one 20 = .ok (.iconst 1, 1) := by decide +kernel
theorem dX11_one_21 : decode cX11_one 21 = .ok (.ireturn, 1) := by decide +kernel
theorem dX11_one_22 : decode cX11_one 22 = .ok (.aload_n 0, 1) := by decide +kernel
theorem dX11_one_23 : decode cX11_one 23 = .ok (.invokevirtual 230, 3) := by decide +kernel
theorem dX11_one_26 : decode cX11_one 26 = .ok (.istore_n 1, 1) := by decide +kernel
theorem dX11_one_27 : decode cX11_one 27 = .ok (.iload_n 1, 1) := by decide +kernel
theorem dX11_one_28 : decode cX11_one 28 = .ok (.ifCond .le 15, 3) := by decide +kernel
theorem dX11_one_31 : decode cX11_one 31 = .ok (.aload_n 0, 1) := by decide +kernel
theorem dX11_one_32 : decode cX11_one 32 = .ok (.iload_n 1, 1) := by decide +kernel
theorem dX11_one_33 : decode cX11_one 33 = .ok (.ineg, 1) := by decide +kernel
theorem dX11_one_34 : decode cX11_one 34 = .ok (.invokevirtual 205, 3) := by decide +kernel
theorem dX11_one_37 : decode cX11_one 37 = .ok (.aload_n 0, 1) := by decide +kernel
theorem dX11_one_38 : decode cX11_one 38 = .ok (.invokevirtual 202, 3) := by decide +kernel
theorem dX11_one_41 : decode cX11_one 41 = .ok (.iconst 1, 1) := by decide +kernel
theorem dX11_one_42 : decode cX11_one 42 = .ok (.ireturn, 1) := by decide +kernel
theorem dX11_one_43 : decode cX11_one 43 = .ok (.aload_n 0, 1) := by decide +kernel
theorem dX11_one_44 : decode cX11_one 44 = .ok (.bipush 45, 2) := by decide +kernel
theorem dX11_one_46 : decode cX11_one 46 = .ok (.invokevirtual 221, 3) := by decide +kernel
theorem dX11_one_49 : decode cX11_one 49 = .ok (.ifCond .eq 54, 3) := by decide +kernel
theorem dX11_one_52 : decode cX11_one 52 = .ok (.aload_n 0, 1) := by decide +kernel
theorem dX11_one_53 : decode cX11_one 53 = .ok (.getfield 215, 3) := by decide +kernel
theorem dX11_one_56 : decode cX11_one 56 = .ok (.iconst 5, 1) := by decide +kernel
theorem dX11_one_57 : decode cX11_one 57 = .ok (.if_icmp .ne 5, 3) := by decide +kernel
theorem dX11_one_60 : decode cX11_one 60 = .ok (.iconst 0, 1) := by decide +kernel
theorem dX11_one_61 : decode cX11_one 61 = .ok (.ireturn, 1) := by decide +kernel
theorem dX11_one_62 : decode cX11_one 62 = .ok (.aload_n 0, 1) := by decide +kernel
theorem dX11_one_63 : decode cX11_one 63 = .ok (.dup, 1) := by decide +kernel
theorem dX11_one_64 : decode cX11_one 64 = .ok (.getfield 215, 3) := by decide +kernel
theorem dX11_one_67 : decode cX11_one 67 = .ok (.iconst 1, 1) := by decide +kernel
theorem dX11_one_68 : decode cX11_one 68 = .ok (.iadd, 1) := by decide +kernel
theorem dX11_one_69 : decode cX11_one 69 = .ok (.putfield 215, 3) := by decide +kernel
theorem dX11_one_72 : decode cX11_one 72 = .ok (.aload_n 0, 1) := by decide +kernel
theorem dX11_one_73 : decode cX11_one 73 = .ok (.invokevirtual 202, 3) := by decide +kernel
theorem dX11_one_76 : decode cX11_one 76 = .ok (.aload_n 0, 1) := by decide +kernel
theorem dX11_one_77 : decode cX11_one 77 = .ok (.invokevirtual 227, 3) := by decide +kernel
theorem dX11_one_80 : decode cX11_one 80 = .ok (.ifCond .ne 5, 3) := by decide +kernel
theorem dX11_one_83 : decode cX11_one 83 = .ok (.iconst 0, 1) := by decide +kernel
theorem dX11_one_84 : decode cX11_one 84 = .ok (.ireturn, 1) := by decide +kernel
theorem dX11_one_85 : decode cX11_one 85 = .ok (.aload_n 0, 1) := by decide +kernel
theorem dX11_one_86 : decode cX11_one 86 = .ok (.dup, 1) := by decide +kernel
theorem dX11_one_87 : decode cX11_one 87 = .ok (.getfield 215, 3) := by decide +kernel
theorem dX11_one_90 : decode cX11_one 90 = .ok (.iconst 1, 1) := by decide +kernel
theorem dX11_one_91 : decode cX11_one 91 = .ok (.isub, 1) := by decide +kernel
theorem dX11_one_92 : decode cX11_one 92 = .ok (.putfield 215, 3) := by decide +kernel
theorem dX11_one_95 : decode cX11_one 95 = .ok (.aload_n 0, 1) := by decide +kernel
theorem dX11_one_96 : decode cX11_one 96 = .ok (.bipush (-19), 2) := by decide +kernel
theorem dX11_one_98 : decode cX11_one 98 = .ok (.invokevirtual 205, 3) := by decide +kernel
theorem dX11_one_101 : decode cX11_one 101 = .ok (.iconst 1, 1) := by decide +kernel
theorem dX11_one_102 : decode cX11_one 102 = .ok (.ireturn, 1) := by decide +kernel
theorem dX11_one_103 : decode cX11_one 103 = .ok (.aload_n 0, 1) := by decide +kernel
theorem dX11_one_104 : decode cX11_one 104 = .ok (.bipush 40, 2) := by decide +kernel
theorem dX11_one_106 : decode cX11_one 106 = .ok (.invokevirtual 221, 3) := by decide +kernel
theorem dX11_one_109 : decode cX11_one 109 = .ok (.ifCond .eq 11, 3) := by decide +kernel
theorem dX11_one_112 : decode cX11_one 112 = .ok (.aload_n 0, 1) := by decide +kernel
theorem dX11_one_113 : decode cX11_one 113 = .ok (.getfield 215, 3) := by decide +kernel
theorem dX11_one_116 : decode cX11_one 116 = .ok (.iconst 5, 1) := by decide +kernel
theorem dX11_one_117 : decode cX11_one 117 = .ok (.if_icmp .ne 5, 3) := by decide +kernel
theorem dX11_one_120 : decode cX11_one 120 = .ok (.iconst 0, 1) := by decide +kernel
theorem dX11_one_121 : decode cX11_one 121 = .ok (.ireturn, 1) := by decide +kernel
theorem dX11_one_122 : decode cX11_one 122 = .ok (.aload_n 0, 1) := by decide +kernel
theorem dX11_one_123 : decode cX11_one 123 = .ok (.dup, 1) := by decide +kernel
theorem dX11_one_124 : decode cX11_one 124 = .ok (.getfield 215, 3) := by decide +kernel
theorem dX11_one_127 : decode cX11_one 127 = .ok (.iconst 1, 1) := by decide +kernel
theorem dX11_one_128 : decode cX11_one 128 = .ok (.iadd, 1) := by decide +kernel
theorem dX11_one_129 : decode cX11_one 129 = .ok (.putfield 215, 3) := by decide +kernel
theorem dX11_one_132 : decode cX11_one 132 = .ok (.aload_n 0, 1) := by decide +kernel
theorem dX11_one_133 : decode cX11_one 133 = .ok (.invokevirtual 202, 3) := by decide +kernel
theorem dX11_one_136 : decode cX11_one 136 = .ok (.aload_n 0, 1) := by decide +kernel
theorem dX11_one_137 : decode cX11_one 137 = .ok (.invokevirtual 233, 3) := by decide +kernel
theorem dX11_one_140 : decode cX11_one 140 = .ok (.ifCond .eq 12, 3) := by decide +kernel
theorem dX11_one_143 : decode cX11_one 143 = .ok (.aload_n 0, 1) := by decide +kernel
theorem dX11_one_144 : decode cX11_one 144 = .ok (.bipush 41, 2) := by decide +kernel
theorem dX11_one_146 : decode cX11_one 146 = .ok (.invokevirtual 221, 3) := by decide +kernel
theorem dX11_one_149 : decode cX11_one 149 = .ok (.ifCond .ne 5, 3) := by decide +kernel
theorem dX11_one_152 : decode cX11_one 152 = .ok (.iconst 0, 1) := by decide +kernel
theorem dX11_one_153 : decode cX11_one 153 = .ok (.ireturn, 1) := by decide +kernel
theorem dX11_one_154 : decode cX11_one 154 = .ok (.aload_n 0, 1) := by decide +kernel
theorem dX11_one_155 : decode cX11_one 155 = .ok (.dup, 1) := by decide +kernel
theorem dX11_one_156 : decode cX11_one 156 = .ok (.getfield 215, 3) := by decide +kernel
theorem dX11_one_159 : decode cX11_one 159 = .ok (.iconst 1, 1) := by decide +kernel
theorem dX11_one_160 : decode cX11_one 160 = .ok (.isub, 1) := by decide +kernel
theorem dX11_one_161 : decode cX11_one 161 = .ok (.putfield 215, 3) := by decide +kernel
theorem dX11_one_164 : decode cX11_one 164 = .ok (.aload_n 0, 1) := by decide +kernel
theorem dX11_one_165 : decode cX11_one 165 = .ok (.invokevirtual 202, 3) := by decide +kernel
theorem dX11_one_168 : decode cX11_one 168 = .ok (.iconst 1, 1) := by decide +kernel
theorem dX11_one_169 : decode cX11_one 169 = .ok (.ireturn, 1) := by decide +kernel
theorem dX11_part_0 : decode cX11_part 0 = .ok (.aload_n 0, 1) := by decide +kernel
theorem dX11_part_1 : decode cX11_part 1 = .ok (.aload_n 1, 1) := by decide +kernel
theorem dX11_part_2 : decode cX11_part 2 = .ok (.invokevirtual 178, 3) := by decide +kernel
theorem dX11_part_5 : decode cX11_part 5 = .ok (.ifCond .ne 5, 3) := by decide +kernel
theorem dX11_part_8 : decode cX11_part 8 = .ok (.iconst 0, 1) := by decide +kernel
theorem dX11_part_9 : decode cX11_part 9 = .ok (.ireturn, 1) := by decide +kernel
theorem dX11_part_10 : decode cX11_part 10 = .ok (.aload_n 0, 1) := by decide +kernel
theorem dX11_part_11 : decode cX11_part 11 = .ok (.invokevirtual 202, 3) := by decide +kernel
theorem dX11_part_14 : decode cX11_part 14 = .ok (.aload_n 0, 1) := by decide +kernel
theorem dX11_part_15 : decode cX11_part 15 = .ok (.getfield 37, 3) := by decide +kernel
theorem dX11_part_18 : decode cX11_part 18 = .ok (.iconst 4, 1) := by decide +kernel
theorem dX11_part_19 : decode cX11_part 19 = .ok (.aload_n 0, 1) := by decide +kernel
theorem dX11_part_20 : decode cX11_part 20 = .ok (.getfield 190, 3) := by decide +kernel
theorem dX11_part_23 : decode cX11_part 23 = .ok (.imul, 1) := by decide +kernel
theorem dX11_part_24 : decode cX11_part 24 = .ok (.iload_n 2, 1) := by decide +kernel
theorem dX11_part_25 : decode cX11_part 25 = .ok (.iadd, 1) := by decide +kernel
theorem dX11_part_26 : decode cX11_part 26 = .ok (.aload_n 0, 1) := by decide +kernel
theorem dX11_part_27 : decode cX11_part 27 = .ok (.getfield 193, 3) := by decide +kernel
theorem dX11_part_30 : decode cX11_part 30 = .ok (.iastore, 1) := by decide +kernel
theorem dX11_part_31 : decode cX11_part 31 = .ok (.aload_n 0, 1) := by decide +kernel
theorem dX11_part_32 : decode cX11_part 32 = .ok (.invokevirtual 233, 3) := by decide +kernel
theorem dX11_part_35 : decode cX11_part 35 = .ok (.ifCond .eq 12, 3) := by decide +kernel
theorem dX11_part_38 : decode cX11_part 38 = .ok (.aload_n 0, 1) := by decide +kernel
theorem dX11_part_39 : decode cX11_part 39 = .ok (.bipush 59, 2) := by decide +kernel
theorem dX11_part_41 : decode cX11_part 41 = .ok (.invokevirtual 221, 3) := by decide +kernel
theorem dX11_part_44 : decode cX11_part 44 = .ok (.ifCond .ne 5, 3) := by decide +kernel
theorem dX11_part_47 : decode cX11_part 47 = .ok (.iconst 0, 1) := by decide +kernel
theorem dX11_part_48 : decode cX11_part 48 = .ok (.ireturn, 1) := by decide +kernel
theorem dX11_part_49 : decode cX11_part 49 = .ok (.aload_n 0, 1) := by decide +kernel
theorem dX11_part_50 : decode cX11_part 50 = .ok (.invokevirtual 202, 3) := by decide +kernel
theorem dX11_part_53 : decode cX11_part 53 = .ok (.iconst 1, 1) := by decide +kernel
theorem dX11_part_54 : decode cX11_part 54 = .ok (.ireturn, 1) := by decide +kernel
theorem dX11_text_0 : decode cX11_text 0 = .ok (.aload_n 0, 1) := by decide +kernel
theorem dX11_text_1 : decode cX11_text 1 = .ok (.getfield 190, 3) := by decide +kernel
theorem dX11_text_4 : decode cX11_text 4 = .ok (.bipush 6, 2) := by decide +kernel
theorem dX11_text_6 : decode cX11_text 6 = .ok (.if_icmp .ne 6, 3) := by decide +kernel
theorem dX11_text_9 : decode cX11_text 9 = .ok (.bipush (-4), 2) := by decide +kernel
theorem dX11_text_11 : decode cX11_text 11 = .ok (.ireturn, 1) := by decide +kernel
theorem dX11_text_12 : decode cX11_text 12 = .ok (.aload_n 0, 1) := by decide +kernel
theorem dX11_text_13 : decode cX11_text 13 = .ok (.iconst 0, 1) := by decide +kernel
theorem dX11_text_14 : decode cX11_text 14 = .ok (.putfield 159, 3) := by decide +kernel
theorem dX11_text_17 : decode cX11_text 17 = .ok (.aload_n 0, 1) := by decide +kernel
theorem dX11_text_18 : decode cX11_text 18 = .ok (.iconst 0, 1) := by decide +kernel
theorem dX11_text_19 : decode cX11_text 19 = .ok (.putfield 215, 3) := by decide +kernel
theorem dX11_text_22 : decode cX11_text 22 = .ok (.aload_n 0, 1) := by decide +kernel
theorem dX11_text_23 : decode cX11_text 23 = .ok (.iconst 0, 1) := by decide +kernel
theorem dX11_text_24 : decode cX11_text 24 = .ok (.putfield 193, 3) := by decide +kernel
theorem dX11_text_27 : decode cX11_text 27 = .ok (.aload_n 0, 1) := by decide +kernel
theorem dX11_text_28 : decode cX11_text 28 = .ok (.invokevirtual 202, 3) := by decide +kernel
theorem dX11_text_31 : decode cX11_text 31 = .ok (.aload_n 0, 1) := by decide +kernel
theorem dX11_text_32 : decode cX11_text 32 = .ok (.ldc 236, 2) := by decide +kernel
theorem dX11_text_34 : decode cX11_text 34 = .ok (.iconst 0, 1) := by decide +kernel
theorem dX11_text_35 : decode cX11_text 35 = .ok (.invokevirtual 238, 3) := by decide +kernel
theorem dX11_text_38 : decode cX11_text 38 = .ok (.ifCond .eq 34, 3) := by decide +kernel
theorem dX11_text_41 : decode cX11_text 41 = .ok (.aload_n 0, 1) := by decide +kernel
theorem dX11_text_42 : decode cX11_text 42 = .ok (.ldc 242, 2) := by decide +kernel
theorem dX11_text_44 : decode cX11_text 44 = .ok (.iconst 1, 1) := by decide +kernel
theorem dX11_text_45 : decode cX11_text 45 = .ok (.invokevirtual 238, 3) := by decide +kernel
theorem dX11_text_48 : decode cX11_text 48 = .ok (.ifCond .eq 24, 3) := by decide +kernel
theorem dX11_text_51 : decode cX11_text 51 = .ok (.aload_n 0, 1) := by decide +kernel
theorem dX11_text_52 : decode cX11_text 52 = .ok (.ldc 244, 2) := by decide +kernel
theorem dX11_text_54 : decode cX11_text 54 = .ok (.iconst 2, 1) := by decide +kernel
theorem dX11_text_55 : decode cX11_text 55 = .ok (.invokevirtual 238, 3) := by decide +kernel
theorem dX11_text_58 : decode cX11_text 58 = .ok (.ifCond .eq 14, 3) := by decide +kernel
theorem dX11_text_61 : decode cX11_text 61 = .ok (.aload_n 0, 1) := by decide +kernel
theorem dX11_text_62 : decode cX11_text 62 = .ok (.getfield 165, 3) := by decide +kernel
theorem dX11_text_65 : decode cX11_text 65 = .ok (.ifCond .ne 7, 3) := by decide +kernel
theorem dX11_text_68 : decode cX11_text 68 = .ok (.iconst 1, 1) := by decide +kernel
theorem dX11_text_69 : decode cX11_text 69 = .ok (.goto 4, 3) := by decide +kernel
theorem dX11_text_72 : decode cX11_text 72 = .ok (.iconst 0, 1) := by decide +kernel
theorem dX11_text_73 : decode cX11_text 73 = .ok (.istore_n 1, 1) := by decide +kernel
theorem dX11_text_74 : decode cX11_text 74 = .ok (.aload_n 0, 1) := by decide +kernel
theorem dX11_text_75 : decode cX11_text 75 = .ok (.iconst 0, 1) := by decide +kernel
theorem dX11_text_76 : decode cX11_text 76 = .ok (.putfield 156, 3) := by decide +kernel
theorem dX11_text_79 : decode cX11_text 79 = .ok (.iload_n 1, 1) := by decide +kernel
theorem dX11_text_80 : decode cX11_text 80 = .ok (.ifCond .ne 11, 3) := by decide +kernel
theorem dX11_text_83 : decode cX11_text 83 = .ok (.bipush (-100), 2) := by decide +kernel
theorem dX11_text_85 : decode cX11_text 85 = .ok (.aload_n 0, 1) := by decide +kernel
theorem dX11_text_86 : decode cX11_text 86 = .ok (.getfield 162, 3) := by decide +kernel
theorem dX11_text_89 : decode cX11_text 89 = .ok (.isub, 1) := by decide +kernel
theorem dX11_text_90 : decode cX11_text 90 = .ok (.ireturn, 1) := by decide +kernel
theorem dX11_text_91 : decode cX11_text 91 = .ok (.aload_n 0, 1) := by decide +kernel
theorem dX11_text_92 : decode cX11_text 92 = .ok (.getfield 37, 3) := by decide +kernel
theorem dX11_text_95 : decode cX11_text 95 = .ok (.iconst 4, 1) := by decide +kernel
theorem dX11_text_96 : decode cX11_text 96 = .ok (.aload_n 0, 1) := by decide +kernel
theorem dX11_text_97 : decode cX11_text 97 = .ok (.getfield 190, 3) := by decide +kernel
theorem dX11_text_100 : decode cX11_text 100 = .ok (.imul, 1) := by decide +kernel
theorem dX11_text_101 : decode cX11_text 101 = .ok (.iconst 3, 1) := by decide +kernel
theorem dX11_text_102 : decode cX11_text 102 = .ok (.iadd, 1) := by decide +kernel
theorem dX11_text_103 : decode cX11_text 103 = .ok (.aload_n 0, 1) := by decide +kernel
theorem dX11_text_104 : decode cX11_text 104 = .ok (.getfield 193, 3) := by decide +kernel
theorem dX11_text_107 : decode cX11_text 107 = .ok (.iastore, 1) := by decide +kernel
theorem dX11_text_108 : decode cX11_text 108 = .ok (.aload_n 0, 1) := by decide +kernel
theorem dX11_text_109 : decode cX11_text 109 = .ok (.dup, 1) := by decide +kernel
theorem dX11_text_110 : decode cX11_text 110 = .ok (.getfield 190, 3) := by decide +kernel
theorem dX11_text_113 : decode cX11_text 113 = .ok (.dup_x1, 1) := by decide +kernel
theorem dX11_text_114 : decode cX11_text 114 = .ok (.iconst 1, 1) := by decide +kernel
theorem dX11_text_115 : decode cX11_text 115 = .ok (.iadd, 1) := by decide +kernel
theorem dX11_text_116 : decode cX11_text 116 = .ok (.putfield 190, 3) := by decide +kernel
theorem dX11_text_119 : decode cX11_text 119 = .ok (.ireturn, 1) := by decide +kernel
theorem dX11_force_0 : decode cX11_force 0 = .ok (.iload_n 1, 1) := by decide +kernel
theorem dX11_force_1 : decode cX11_force 1 = .ok (.iconst 0, 1) := by decide +kernel
theorem dX11_force_2 : decode cX11_force 2 = .ok (.aload_n 0, 1) := by decide +kernel
theorem dX11_force_3 : decode cX11_force 3 = .ok (.getfield 190, 3) := by decide +kernel
theorem dX11_force_6 : decode cX11_force 6 = .ok (.iconst 1, 1) := by decide +kernel
theorem dX11_force_7 : decode cX11_force 7 = .ok (.isub, 1) := by decide +kernel
theorem dX11_force_8 : decode cX11_force 8 = .ok (.invokestatic 102, 3) := by decide +kernel
theorem dX11_force_11 : decode cX11_force 11 = .ok (.ifCond .ne 6, 3) := by decide +kernel
theorem dX11_force_14 : decode cX11_force 14 = .ok (.bipush (-2), 2) := by decide +kernel
theorem dX11_force_16 : decode cX11_force 16 = .ok (.ireturn, 1) := by decide +kernel
theorem dX11_force_17 : decode cX11_force 17 = .ok (.aload_n 0, 1) := by decide +kernel
theorem dX11_force_18 : decode cX11_force 18 = .ok (.getfield 129, 3) := by decide +kernel
theorem dX11_force_21 : decode cX11_force 21 = .ok (.istore_n 2, 1) := by decide +kernel
theorem dX11_force_22 : decode cX11_force 22 = .ok (.aload_n 0, 1) := by decide +kernel
theorem dX11_force_23 : decode cX11_force 23 = .ok (.iload_n 1, 1) := by decide +kernel
theorem dX11_force_24 : decode cX11_force 24 = .ok (.putfield 129, 3) := by decide +kernel
theorem dX11_force_27 : decode cX11_force 27 = .ok (.iload_n 2, 1) := by decide +kernel
theorem dX11_force_28 : decode cX11_force 28 = .ok (.ireturn, 1) := by decide +kernel
theorem dX11_call_0 : decode cX11_call 0 = .ok (.aload_n 0, 1) := by decide +kernel
theorem dX11_call_1 : decode cX11_call 1 = .ok (.iload_n 1, 1) := by decide +kernel
theorem dX11_call_2 : decode cX11_call 2 = .ok (.invokevirtual 112, 3) := by decide +kernel
theorem dX11_call_5 : decode cX11_call 5 = .ok (.ifCond .ne 6, 3) := by decide +kernel
theorem dX11_call_8 : decode cX11_call 8 = .ok (.bipush (-2), 2) := by decide +kernel
theorem dX11_call_10 : decode cX11_call 10 = .ok (.ireturn, 1) := by decide +kernel
theorem dX11_call_11 : decode cX11_call 11 = .ok (.aload_n 0, 1) := by decide +kernel
theorem dX11_call_12 : decode cX11_call 12 = .ok (.getfield 25, 3) := by decide +kernel
theorem dX11_call_15 : decode cX11_call 15 = .ok (.iload_n 1, 1) := by decide +kernel
theorem dX11_call_16 : decode cX11_call 16 = .ok (.iaload, 1) := by decide +kernel
theorem dX11_call_17 : decode cX11_call 17 = .ok (.ifCond .eq 6, 3) := by decide +kernel
theorem dX11_call_20 : decode cX11_call 20 = .ok (.bipush (-3), 2) := by decide +kernel
theorem dX11_call_22 : decode cX11_call 22 = .ok (.ireturn, 1) := by decide +kernel
theorem dX11_call_23 : decode cX11_call 23 = .ok (.aload_n 0, 1) := by decide +kernel
theorem dX11_call_24 : decode cX11_call 24 = .ok (.iload_n 1, 1) := by decide +kernel
theorem dX11_call_25 : decode cX11_call 25 = .ok (.invokevirtual 151, 3) := by decide +kernel
theorem dX11_call_28 : decode cX11_call 28 = .ok (.ifCond .ne 5, 3) := by decide +kernel
theorem dX11_call_31 : decode cX11_call 31 = .ok (.iconst 0, 1) := by decide +kernel
theorem dX11_call_32 : decode cX11_call 32 = .ok (.ireturn, 1) := by decide +kernel
theorem dX11_call_33 : decode cX11_call 33 = .ok (.aload_n 0, 1) := by decide +kernel
theorem dX11_call_34 : decode cX11_call 34 = .ok (.getfield 25, 3) := by decide +kernel
theorem dX11_call_37 : decode cX11_call 37 = .ok (.iload_n 1, 1) := by decide +kernel
theorem dX11_call_38 : decode cX11_call 38 = .ok (.iconst 1, 1) := by decide +kernel
theorem dX11_call_39 : decode cX11_call 39 = .ok (.iastore, 1) := by decide +kernel
theorem dX11_call_40 : decode cX11_call 40 = .ok (.aload_n 0, 1) := by decide +kernel
theorem dX11_call_41 : decode cX11_call 41 = .ok (.getfield 28, 3) := by decide +kernel
theorem dX11_call_44 : decode cX11_call 44 = .ok (.iload_n 1, 1) := by decide +kernel
theorem dX11_call_45 : decode cX11_call 45 = .ok (.aload_n 0, 1) := by decide +kernel
theorem dX11_call_46 : decode cX11_call 46 = .ok (.getfield 142, 3) := by decide +kernel
theorem dX11_call_49 : decode cX11_call 49 = .ok (.aload_n 0, 1) := by decide +kernel
theorem dX11_call_50 : decode cX11_call 50 = .ok (.iload_n 1, 1) := by decide +kernel
theorem dX11_call_51 : decode cX11_call 51 = .ok (.invokevirtual 246, 3) := by decide +kernel
theorem dX11_call_54 : decode cX11_call 54 = .ok (.iadd, 1) := by decide +kernel
theorem dX11_call_55 : decode cX11_call 55 = .ok (.iastore, 1) := by decide +kernel
theorem dX11_call_56 : decode cX11_call 56 = .ok (.iconst 1, 1) := by decide +kernel
theorem dX11_call_57 : decode cX11_call 57 = .ok (.ireturn, 1) := by decide +kernel
theorem dX11_comesIn_0 : decode cX11_comesIn 0 = .ok (.aload_n 0, 1) := by decide +kernel
theorem dX11_comesIn_1 : decode cX11_comesIn 1 = .ok (.getfield 25, 3) := by decide +kernel
theorem dX11_comesIn_4 : decode cX11_comesIn 4 = .ok (.iload_n 1, 1) := by decide +kernel
theorem dX11_comesIn_5 : decode cX11_comesIn 5 = .ok (.iconst 2, 1) := by decide +kernel
theorem dX11_comesIn_6 : decode cX11_comesIn 6 = .ok (.iastore, 1) := by decide +kernel
theorem dX11_comesIn_7 : decode cX11_comesIn 7 = .ok (.aload_n 0, 1) := by decide +kernel
theorem dX11_comesIn_8 : decode cX11_comesIn 8 = .ok (.getfield 28, 3) := by decide +kernel
theorem dX11_comesIn_11 : decode cX11_comesIn 11 = .ok (.iload_n 1, 1) := by decide +kernel
theorem dX11_comesIn_12 : decode cX11_comesIn 12 = .ok (.iload_n 2, 1) := by decide +kernel
theorem dX11_comesIn_13 : decode cX11_comesIn 13 = .ok (.iastore, 1) := by decide +kernel
theorem dX11_comesIn_14 : decode cX11_comesIn 14 = .ok (.aload_n 0, 1) := by decide +kernel
theorem dX11_comesIn_15 : decode cX11_comesIn 15 = .ok (.dup, 1) := by decide +kernel
theorem dX11_comesIn_16 : decode cX11_comesIn 16 = .ok (.getfield 249, 3) := by decide +kernel
theorem dX11_comesIn_19 : decode cX11_comesIn 19 = .ok (.aload_n 0, 1) := by decide +kernel
theorem dX11_comesIn_20 : decode cX11_comesIn 20 = .ok (.iload_n 1, 1) := by decide +kernel
theorem dX11_comesIn_21 : decode cX11_comesIn 21 = .ok (.iload_n 2, 1) := by decide +kernel
theorem dX11_comesIn_22 : decode cX11_comesIn 22 = .ok (.invokevirtual 153, 3) := by decide +kernel
theorem dX11_comesIn_25 : decode cX11_comesIn 25 = .ok (.iadd, 1) := by decide +kernel
theorem dX11_comesIn_26 : decode cX11_comesIn 26 = .ok (.putfield 249, 3) := by decide +kernel
theorem dX11_comesIn_29 : decode cX11_comesIn 29 = .ok (.aload_n 0, 1) := by decide +kernel
theorem dX11_comesIn_30 : decode cX11_comesIn 30 = .ok (.iconst 0, 1) := by decide +kernel
theorem dX11_comesIn_31 : decode cX11_comesIn 31 = .ok (.aload_n 0, 1) := by decide +kernel
theorem dX11_comesIn_32 : decode cX11_comesIn 32 = .ok (.getfield 119, 3) := by decide +kernel
theorem dX11_comesIn_35 : decode cX11_comesIn 35 = .ok (.iconst 1, 1) := by decide +kernel
theorem dX11_comesIn_36 : decode cX11_comesIn 36 = .ok (.isub, 1) := by decide +kernel
theorem dX11_comesIn_37 : decode cX11_comesIn 37 = .ok (.invokestatic 122, 3) := by decide +kernel
theorem dX11_comesIn_40 : decode cX11_comesIn 40 = .ok (.putfield 119, 3) := by decide +kernel
theorem dX11_comesIn_43 : decode cX11_comesIn 43 = .ok (.return_, 1) := by decide +kernel
theorem dX11_passes_0 : decode cX11_passes 0 = .ok (.aload_n 0, 1) := by decide +kernel
theorem dX11_passes_1 : decode cX11_passes 1 = .ok (.sipush 9999, 3) := by decide +kernel
theorem dX11_passes_4 : decode cX11_passes 4 = .ok (.aload_n 0, 1) := by decide +kernel
theorem dX11_passes_5 : decode cX11_passes 5 = .ok (.getfield 142, 3) := by decide +kernel
theorem dX11_passes_8 : decode cX11_passes 8 = .ok (.iload_n 1, 1) := by decide +kernel
theorem dX11_passes_9 : decode cX11_passes 9 = .ok (.iadd, 1) := by decide +kernel
theorem dX11_passes_10 : decode cX11_passes 10 = .ok (.invokestatic 136, 3) := by decide +kernel
theorem dX11_passes_13 : decode cX11_passes 13 = .ok (.putfield 142, 3) := by decide +kernel
theorem dX11_passes_16 : decode cX11_passes 16 = .ok (.iconst 0, 1) := by decide +kernel
theorem dX11_passes_17 : decode cX11_passes 17 = .ok (.istore_n 2, 1) := by decide +kernel
theorem dX11_passes_18 : decode cX11_passes 18 = .ok (.iconst 0, 1) := by decide +kernel
theorem dX11_passes_19 : decode cX11_passes 19 = .ok (.istore_n 3, 1) := by decide +kernel
theorem dX11_passes_20 : decode cX11_passes 20 = .ok (.iload_n 3, 1) := by decide +kernel
theorem dX11_passes_21 : decode cX11_passes 21 = .ok (.aload_n 0, 1) := by decide +kernel
theorem dX11_passes_22 : decode cX11_passes 22 = .ok (.getfield 99, 3) := by decide +kernel
theorem dX11_passes_25 : decode cX11_passes 25 = .ok (.if_icmp .ge 49, 3) := by decide +kernel
theorem dX11_passes_28 : decode cX11_passes 28 = .ok (.aload_n 0, 1) := by decide +kernel
theorem dX11_passes_29 : decode cX11_passes 29 = .ok (.getfield 25, 3) := by decide +kernel
theorem dX11_passes_32 : decode cX11_passes 32 = .ok (.iload_n 3, 1) := by decide +kernel
theorem dX11_passes_33 : decode cX11_passes 33 = .ok (.iaload, 1) := by decide +kernel
theorem dX11_passes_34 : decode cX11_passes 34 = .ok (.iconst 1, 1) := by decide +kernel
theorem dX11_passes_35 : decode cX11_passes 35 = .ok (.if_icmp .ne 33, 3) := by decide +kernel
theorem dX11_passes_38 : decode cX11_passes 38 = .ok (.aload_n 0, 1) := by decide +kernel
theorem dX11_passes_39 : decode cX11_passes 39 = .ok (.getfield 28, 3) := by decide +kernel
theorem dX11_passes_42 : decode cX11_passes 42 = .ok (.iload_n 3, 1) := by decide +kernel
theorem dX11_passes_43 : decode cX11_passes 43 = .ok (.iaload, 1) := by decide +kernel
theorem dX11_passes_44 : decode cX11_passes 44 = .ok (.aload_n 0, 1) := by decide +kernel
theorem dX11_passes_45 : decode cX11_passes 45 = .ok (.getfield 142, 3) := by decide +kernel
theorem dX11_passes_48 : decode cX11_passes 48 = .ok (.if_icmp .le 6, 3) := by decide +kernel
theorem dX11_passes_51 : decode cX11_passes 51 = .ok (.goto 17, 3) := by decide +kernel
theorem dX11_passes_54 : decode cX11_passes 54 = .ok (.aload_n 0, 1) := by decide +kernel
theorem dX11_passes_55 : decode cX11_passes 55 = .ok (.iload_n 3, 1) := by decide +kernel
theorem dX11_passes_56 : decode cX11_passes 56 = .ok (.aload_n 0, 1) := by decide +kernel
theorem dX11_passes_57 : decode cX11_passes 57 = .ok (.getfield 28, 3) := by decide +kernel
theorem dX11_passes_60 : decode cX11_passes 60 = .ok (.iload_n 3, 1) := by decide +kernel
theorem dX11_passes_61 : decode cX11_passes 61 = .ok (.iaload, 1) := by decide +kernel
theorem dX11_passes_62 : decode cX11_passes 62 = .ok (.invokevirtual 252, 3) := by decide +kernel
theorem dX11_passes_65 : decode cX11_passes 65 = .ok (.iinc 2 1, 3) := by decide +kernel
theorem dX11_passes_68 : decode cX11_passes 68 = .ok (.iinc 3 1, 3) := by decide +kernel
theorem dX11_passes_71 : decode cX11_passes 71 = .ok (.goto (-51), 3) := by decide +kernel
theorem dX11_passes_74 : decode cX11_passes 74 = .ok (.iload_n 2, 1) := by decide +kernel
theorem dX11_passes_75 : decode cX11_passes 75 = .ok (.ireturn, 1) := by decide +kernel
theorem dX11_time_0 : decode cX11_time 0 = .ok (.iload_n 1, 1) := by decide +kernel
theorem dX11_time_1 : decode cX11_time 1 = .ok (.iconst 0, 1) := by decide +kernel
theorem dX11_time_2 : decode cX11_time 2 = .ok (.sipush 240, 3) := by decide +kernel
theorem dX11_time_5 : decode cX11_time 5 = .ok (.invokestatic 102, 3) := by decide +kernel
theorem dX11_time_8 : decode cX11_time 8 = .ok (.ifCond .eq 11, 3) := by decide +kernel
theorem dX11_time_11 : decode cX11_time 11 = .ok (.aload_n 0, 1) := by decide +kernel
theorem dX11_time_12 : decode cX11_time 12 = .ok (.iload_n 1, 1) := by decide +kernel
theorem dX11_time_13 : decode cX11_time 13 = .ok (.invokevirtual 256, 3) := by decide +kernel
theorem dX11_time_16 : decode cX11_time 16 = .ok (.goto 5, 3) := by decide +kernel
theorem dX11_time_19 : decode cX11_time 19 = .ok (.bipush (-2), 2) := by decide +kernel
theorem dX11_time_21 : decode cX11_time 21 = .ok (.ireturn, 1) := by decide +kernel
theorem dX11_nobody_0 : decode cX11_nobody 0 = .ok (.iconst 0, 1) := by decide +kernel
theorem dX11_nobody_1 : decode cX11_nobody 1 = .ok (.istore_n 1, 1) := by decide +kernel
theorem dX11_nobody_2 : decode cX11_nobody 2 = .ok (.iconst 0, 1) := by decide +kernel
theorem dX11_nobody_3 : decode cX11_nobody 3 = .ok (.istore_n 2, 1) := by decide +kernel
theorem dX11_nobody_4 : decode cX11_nobody 4 = .ok (.iload_n 2, 1) := by decide +kernel
theorem dX11_nobody_5 : decode cX11_nobody 5 = .ok (.aload_n 0, 1) := by decide +kernel
theorem dX11_nobody_6 : decode cX11_nobody 6 = .ok (.getfield 99, 3) := by decide +kernel
theorem dX11_nobody_9 : decode cX11_nobody 9 = .ok (.if_icmp .ge 32, 3) := by decide +kernel
theorem dX11_nobody_12 : decode cX11_nobody 12 = .ok (.aload_n 0, 1) := by decide +kernel
theorem dX11_nobody_13 : decode cX11_nobody 13 = .ok (.getfield 25, 3) := by decide +kernel
theorem dX11_nobody_16 : decode cX11_nobody 16 = .ok (.iload_n 2, 1) := by decide +kernel
theorem dX11_nobody_17 : decode cX11_nobody 17 = .ok (.iaload, 1) := by decide +kernel
theorem dX11_nobody_18 : decode cX11_nobody 18 = .ok (.ifCond .ne 17, 3) := by decide +kernel
theorem dX11_nobody_21 : decode cX11_nobody 21 = .ok (.aload_n 0, 1) := by decide +kernel
theorem dX11_nobody_22 : decode cX11_nobody 22 = .ok (.iload_n 2, 1) := by decide +kernel
theorem dX11_nobody_23 : decode cX11_nobody 23 = .ok (.invokevirtual 151, 3) := by decide +kernel
theorem dX11_nobody_26 : decode cX11_nobody 26 = .ok (.ifCond .ne 9, 3) := by decide +kernel
theorem dX11_nobody_29 : decode cX11_nobody 29 = .ok (.iload_n 1, 1) := by decide +kernel
theorem dX11_nobody_30 : decode cX11_nobody 30 = .ok (.iconst 1, 1) := by decide +kernel
theorem dX11_nobody_31 : decode cX11_nobody 31 = .ok (.iload_n 2, 1) := by decide +kernel
theorem dX11_nobody_32 : decode cX11_nobody 32 = .ok (.ishl, 1) := by decide +kernel
theorem dX11_nobody_33 : decode cX11_nobody 33 = .ok (.ior, 1) := by decide +kernel
theorem dX11_nobody_34 : decode cX11_nobody 34 = .ok (.istore_n 1, 1) := by decide +kernel
theorem dX11_nobody_35 : decode cX11_nobody 35 = .ok (.iinc 2 1, 3) := by decide +kernel
theorem dX11_nobody_38 : decode cX11_nobody 38 = .ok (.goto (-34), 3) := by decide +kernel
theorem dX11_nobody_41 : decode cX11_nobody 41 = .ok (.iload_n 1, 1) := by decide +kernel
theorem dX11_nobody_42 : decode cX11_nobody 42 = .ok (.ireturn, 1) := by decide +kernel
theorem dX11_callAt_0 : decode cX11_callAt 0 = .ok (.aload_n 0, 1) := by decide +kernel
theorem dX11_callAt_1 : decode cX11_callAt 1 = .ok (.iload_n 1, 1) := by decide +kernel
theorem dX11_callAt_2 : decode cX11_callAt 2 = .ok (.invokevirtual 112, 3) := by decide +kernel
theorem dX11_callAt_5 : decode cX11_callAt 5 = .ok (.ifCond .ne 6, 3) := by decide +kernel
theorem dX11_callAt_8 : decode cX11_callAt 8 = .ok (.bipush (-2), 2) := by decide +kernel
theorem dX11_callAt_10 : decode cX11_callAt 10 = .ok (.ireturn, 1) := by decide +kernel
theorem dX11_callAt_11 : decode cX11_callAt 11 = .ok (.aload_n 0, 1) := by decide +kernel
theorem dX11_callAt_12 : decode cX11_callAt 12 = .ok (.getfield 25, 3) := by decide +kernel
theorem dX11_callAt_15 : decode cX11_callAt 15 = .ok (.iload_n 1, 1) := by decide +kernel
theorem dX11_callAt_16 : decode cX11_callAt 16 = .ok (.iaload, 1) := by decide +kernel
theorem dX11_callAt_17 : decode cX11_callAt 17 = .ok (.ifCond .eq 6, 3) := by decide +kernel
theorem dX11_callAt_20 : decode cX11_callAt 20 = .ok (.bipush (-3), 2) := by decide +kernel
theorem dX11_callAt_22 : decode cX11_callAt 22 = .ok (.ireturn, 1) := by decide +kernel
theorem dX11_callAt_23 : decode cX11_callAt 23 = .ok (.iconst 0, 1) := by decide +kernel
theorem dX11_callAt_24 : decode cX11_callAt 24 = .ok (.istore_n 2, 1) := by decide +kernel
theorem dX11_callAt_25 : decode cX11_callAt 25 = .ok (.iload_n 2, 1) := by decide +kernel
theorem dX11_callAt_26 : decode cX11_callAt 26 = .ok (.sipush 241, 3) := by decide +kernel
theorem dX11_callAt_29 : decode cX11_callAt 29 = .ok (.if_icmp .ge 59, 3) := by decide +kernel
theorem dX11_callAt_32 : decode cX11_callAt 32 = .ok (.aload_n 0, 1) := by decide +kernel
theorem dX11_callAt_33 : decode cX11_callAt 33 = .ok (.getfield 142, 3) := by decide +kernel
theorem dX11_callAt_36 : decode cX11_callAt 36 = .ok (.iload_n 2, 1) := by decide +kernel
theorem dX11_callAt_37 : decode cX11_callAt 37 = .ok (.iadd, 1) := by decide +kernel
theorem dX11_callAt_38 : decode cX11_callAt 38 = .ok (.aload_n 0, 1) := by decide +kernel
theorem dX11_callAt_39 : decode cX11_callAt 39 = .ok (.iload_n 1, 1) := by decide +kernel
theorem dX11_callAt_40 : decode cX11_callAt 40 = .ok (.invokevirtual 246, 3) := by decide +kernel
theorem dX11_callAt_43 : decode cX11_callAt 43 = .ok (.iadd, 1) := by decide +kernel
theorem dX11_callAt_44 : decode cX11_callAt 44 = .ok (.aload_n 0, 1) := by decide +kernel
theorem dX11_callAt_45 : decode cX11_callAt 45 = .ok (.getfield 19, 3) := by decide +kernel
theorem dX11_callAt_48 : decode cX11_callAt 48 = .ok (.iload_n 1, 1) := by decide +kernel
theorem dX11_callAt_49 : decode cX11_callAt 49 = .ok (.iaload, 1) := by decide +kernel
theorem dX11_callAt_50 : decode cX11_callAt 50 = .ok (.aload_n 0, 1) := by decide +kernel
theorem dX11_callAt_51 : decode cX11_callAt 51 = .ok (.getfield 22, 3) := by decide +kernel
theorem dX11_callAt_54 : decode cX11_callAt 54 = .ok (.iload_n 1, 1) := by decide +kernel
theorem dX11_callAt_55 : decode cX11_callAt 55 = .ok (.iaload, 1) := by decide +kernel
theorem dX11_callAt_56 : decode cX11_callAt 56 = .ok (.iadd, 1) := by decide +kernel
theorem dX11_callAt_57 : decode cX11_callAt 57 = .ok (.if_icmp .lt 25, 3) := by decide +kernel
theorem dX11_callAt_60 : decode cX11_callAt 60 = .ok (.aload_n 0, 1) := by decide +kernel
theorem dX11_callAt_61 : decode cX11_callAt 61 = .ok (.iload_n 1, 1) := by decide +kernel
theorem dX11_callAt_62 : decode cX11_callAt 62 = .ok (.aload_n 0, 1) := by decide +kernel
theorem dX11_callAt_63 : decode cX11_callAt 63 = .ok (.getfield 16, 3) := by decide +kernel
theorem dX11_callAt_66 : decode cX11_callAt 66 = .ok (.iload_n 1, 1) := by decide +kernel
theorem dX11_callAt_67 : decode cX11_callAt 67 = .ok (.iaload, 1) := by decide +kernel
theorem dX11_callAt_68 : decode cX11_callAt 68 = .ok (.aload_n 0, 1) := by decide +kernel
theorem dX11_callAt_69 : decode cX11_callAt 69 = .ok (.getfield 142, 3) := by decide +kernel
theorem dX11_callAt_72 : decode cX11_callAt 72 = .ok (.iload_n 2, 1) := by decide +kernel
theorem dX11_callAt_73 : decode cX11_callAt 73 = .ok (.iadd, 1) := by decide +kernel
theorem dX11_callAt_74 : decode cX11_callAt 74 = .ok (.invokevirtual 145, 3) := by decide +kernel
theorem dX11_callAt_77 : decode cX11_callAt 77 = .ok (.ifCond .eq 5, 3) := by decide +kernel
theorem dX11_callAt_80 : decode cX11_callAt 80 = .ok (.iload_n 2, 1) := by decide +kernel
theorem dX11_callAt_81 : decode cX11_callAt 81 = .ok (.ireturn, 1) := by decide +kernel
theorem dX11_callAt_82 : decode cX11_callAt 82 = .ok (.iinc 2 1, 3) := by decide +kernel
theorem dX11_callAt_85 : decode cX11_callAt 85 = .ok (.goto (-60), 3) := by decide +kernel
theorem dX11_callAt_88 : decode cX11_callAt 88 = .ok (.iconst (-1), 1) := by decide +kernel
theorem dX11_callAt_89 : decode cX11_callAt 89 = .ok (.ireturn, 1) := by decide +kernel
theorem dX11_wouldBeIn_0 : decode cX11_wouldBeIn 0 = .ok (.aload_n 0, 1) := by decide +kernel
theorem dX11_wouldBeIn_1 : decode cX11_wouldBeIn 1 = .ok (.getfield 25, 3) := by decide +kernel
theorem dX11_wouldBeIn_4 : decode cX11_wouldBeIn 4 = .ok (.iload_n 1, 1) := by decide +kernel
theorem dX11_wouldBeIn_5 : decode cX11_wouldBeIn 5 = .ok (.iaload, 1) := by decide +kernel
theorem dX11_wouldBeIn_6 : decode cX11_wouldBeIn 6 = .ok (.iconst 1, 1) := by decide +kernel
theorem dX11_wouldBeIn_7 : decode cX11_wouldBeIn 7 = .ok (.if_icmp .ne 10, 3) := by decide +kernel
theorem dX11_wouldBeIn_10 : decode cX11_wouldBeIn 10 = .ok (.aload_n 0, 1) := by decide +kernel
theorem dX11_wouldBeIn_11 : decode cX11_wouldBeIn 11 = .ok (.getfield 28, 3) := by decide +kernel
theorem dX11_wouldBeIn_14 : decode cX11_wouldBeIn 14 = .ok (.iload_n 1, 1) := by decide +kernel
theorem dX11_wouldBeIn_15 : decode cX11_wouldBeIn 15 = .ok (.iaload, 1) := by decide +kernel
theorem dX11_wouldBeIn_16 : decode cX11_wouldBeIn 16 = .ok (.ireturn, 1) := by decide +kernel
theorem dX11_wouldBeIn_17 : decode cX11_wouldBeIn 17 = .ok (.aload_n 0, 1) := by decide +kernel
theorem dX11_wouldBeIn_18 : decode cX11_wouldBeIn 18 = .ok (.getfield 25, 3) := by decide +kernel
theorem dX11_wouldBeIn_21 : decode cX11_wouldBeIn 21 = .ok (.iload_n 1, 1) := by decide +kernel
theorem dX11_wouldBeIn_22 : decode cX11_wouldBeIn 22 = .ok (.iaload, 1) := by decide +kernel
theorem dX11_wouldBeIn_23 : decode cX11_wouldBeIn 23 = .ok (.ifCond .ne 24, 3) := by decide +kernel
theorem dX11_wouldBeIn_26 : decode cX11_wouldBeIn 26 = .ok (.aload_n 0, 1) := by decide +kernel
theorem dX11_wouldBeIn_27 : decode cX11_wouldBeIn 27 = .ok (.iload_n 1, 1) := by decide +kernel
theorem dX11_wouldBeIn_28 : decode cX11_wouldBeIn 28 = .ok (.invokevirtual 151, 3) := by decide +kernel
theorem dX11_wouldBeIn_31 : decode cX11_wouldBeIn 31 = .ok (.ifCond .eq 16, 3) := by decide +kernel
theorem dX11_wouldBeIn_34 : decode cX11_wouldBeIn 34 = .ok (.aload_n 0, 1) := by decide +kernel
theorem dX11_wouldBeIn_35 : decode cX11_wouldBeIn 35 = .ok (.getfield 142, 3) := by decide +kernel
theorem dX11_wouldBeIn_38 : decode cX11_wouldBeIn 38 = .ok (.aload_n 0, 1) := by decide +kernel
theorem dX11_wouldBeIn_39 : decode cX11_wouldBeIn 39 = .ok (.iload_n 1, 1) := by decide +kernel
theorem dX11_wouldBeIn_40 : decode cX11_wouldBeIn 40 = .ok (.invokevirtual 246, 3) := by decide +kernel
theorem dX11_wouldBeIn_43 : decode cX11_wouldBeIn 43 = .ok (.iadd, 1) := by decide +kernel
theorem dX11_wouldBeIn_44 : decode cX11_wouldBeIn 44 = .ok (.goto 4, 3) := by decide +kernel
theorem dX11_wouldBeIn_47 : decode cX11_wouldBeIn 47 = .ok (.iconst (-1), 1) := by decide +kernel
theorem dX11_wouldBeIn_48 : decode cX11_wouldBeIn 48 = .ok (.ireturn, 1) := by decide +kernel
theorem dX11_allIn_0 : decode cX11_allIn 0 = .ok (.aload_n 0, 1) := by decide +kernel
theorem dX11_allIn_1 : decode cX11_allIn 1 = .ok (.getfield 142, 3) := by decide +kernel
theorem dX11_allIn_4 : decode cX11_allIn 4 = .ok (.istore_n 1, 1) := by decide +kernel
theorem dX11_allIn_5 : decode cX11_allIn 5 = .ok (.iconst 0, 1) := by decide +kernel
theorem dX11_allIn_6 : decode cX11_allIn 6 = .ok (.istore_n 2, 1) := by decide +kernel
theorem dX11_allIn_7 : decode cX11_allIn 7 = .ok (.iload_n 2, 1) := by decide +kernel
theorem dX11_allIn_8 : decode cX11_allIn 8 = .ok (.aload_n 0, 1) := by decide +kernel
theorem dX11_allIn_9 : decode cX11_allIn 9 = .ok (.getfield 99, 3) := by decide +kernel
theorem dX11_allIn_12 : decode cX11_allIn 12 = .ok (.if_icmp .ge 19, 3) := by decide +kernel
theorem dX11_allIn_15 : decode cX11_allIn 15 = .ok (.iload_n 1, 1) := by decide +kernel
theorem dX11_allIn_16 : decode cX11_allIn 16 = .ok (.aload_n 0, 1) := by decide +kernel
theorem dX11_allIn_17 : decode cX11_allIn 17 = .ok (.iload_n 2, 1) := by decide +kernel
theorem dX11_allIn_18 : decode cX11_allIn 18 = .ok (.invokevirtual 259, 3) := by decide +kernel
theorem dX11_allIn_21 : decode cX11_allIn 21 = .ok (.invokestatic 122, 3) := by decide +kernel
theorem dX11_allIn_24 : decode cX11_allIn 24 = .ok (.istore_n 1, 1) := by decide +kernel
theorem dX11_allIn_25 : decode cX11_allIn 25 = .ok (.iinc 2 1, 3) := by decide +kernel
theorem dX11_allIn_28 : decode cX11_allIn 28 = .ok (.goto (-21), 3) := by decide +kernel
theorem dX11_allIn_31 : decode cX11_allIn 31 = .ok (.iload_n 1, 1) := by decide +kernel
theorem dX11_allIn_32 : decode cX11_allIn 32 = .ok (.ireturn, 1) := by decide +kernel
theorem dX11_onTheLake_0 : decode cX11_onTheLake 0 = .ok (.iload_n 1, 1) := by decide +kernel
theorem dX11_onTheLake_1 : decode cX11_onTheLake 1 = .ok (.ifCond .lt 13, 3) := by decide +kernel
theorem dX11_onTheLake_4 : decode cX11_onTheLake 4 = .ok (.iload_n 1, 1) := by decide +kernel
theorem dX11_onTheLake_5 : decode cX11_onTheLake 5 = .ok (.iconst 1, 1) := by decide +kernel
theorem dX11_onTheLake_6 : decode cX11_onTheLake 6 = .ok (.aload_n 0, 1) := by decide +kernel
theorem dX11_onTheLake_7 : decode cX11_onTheLake 7 = .ok (.getfield 99, 3) := by decide +kernel
theorem dX11_onTheLake_10 : decode cX11_onTheLake 10 = .ok (.ishl, 1) := by decide +kernel
theorem dX11_onTheLake_11 : decode cX11_onTheLake 11 = .ok (.if_icmp .lt 5, 3) := by decide +kernel
theorem dX11_onTheLake_14 : decode cX11_onTheLake 14 = .ok (.iconst 0, 1) := by decide +kernel
theorem dX11_onTheLake_15 : decode cX11_onTheLake 15 = .ok (.ireturn, 1) := by decide +kernel
theorem dX11_onTheLake_16 : decode cX11_onTheLake 16 = .ok (.iconst 0, 1) := by decide +kernel
theorem dX11_onTheLake_17 : decode cX11_onTheLake 17 = .ok (.istore_n 2, 1) := by decide +kernel
