theorem dX12_init_0 : decode cX12_init 0 = .ok (.aload_n 0, 1) := by decide +kernel
theorem dX12_init_1 : decode cX12_init 1 = .ok (.invokespecial 1, 3) := by decide +kernel
theorem dX12_init_4 : decode cX12_init 4 = .ok (.aload_n 0, 1) := by decide +kernel
theorem dX12_init_5 : decode cX12_init 5 = .ok (.sipush 220, 3) := by decide +kernel
theorem dX12_init_8 : decode cX12_init 8 = .ok (.newarray .byte, 2) := by decide +kernel
theorem dX12_init_10 : decode cX12_init 10 = .ok (.putfield 7, 3) := by decide +kernel
theorem dX12_init_13 : decode cX12_init 13 = .ok (.aload_n 0, 1) := by decide +kernel
theorem dX12_init_14 : decode cX12_init 14 = .ok (.iconst 1, 1) := by decide +kernel
theorem dX12_init_15 : decode cX12_init 15 = .ok (.putfield 13, 3) := by decide +kernel
theorem dX12_init_18 : decode cX12_init 18 = .ok (.aload_n 0, 1) := by decide +kernel
theorem dX12_init_19 : decode cX12_init 19 = .ok (.bipush 12, 2) := by decide +kernel
theorem dX12_init_21 : decode cX12_init 21 = .ok (.newarray .int, 2) := by decide +kernel
theorem dX12_init_23 : decode cX12_init 23 = .ok (.putfield 17, 3) := by decide +kernel
theorem dX12_init_26 : decode cX12_init 26 = .ok (.aload_n 0, 1) := by decide +kernel
theorem dX12_init_27 : decode cX12_init 27 = .ok (.bipush 7, 2) := by decide +kernel
theorem dX12_init_29 : decode cX12_init 29 = .ok (.newarray .int, 2) := by decide +kernel
theorem dX12_init_31 : decode cX12_init 31 = .ok (.putfield 21, 3) := by decide +kernel
theorem dX12_init_34 : decode cX12_init 34 = .ok (.aload_n 0, 1) := by decide +kernel
theorem dX12_init_35 : decode cX12_init 35 = .ok (.bipush 7, 2) := by decide +kernel
theorem dX12_init_37 : decode cX12_init 37 = .ok (.newarray .int, 2) := by decide +kernel
theorem dX12_init_39 : decode cX12_init 39 = .ok (.putfield 24, 3) := by decide +kernel
theorem dX12_init_42 : decode cX12_init 42 = .ok (.aload_n 0, 1) := by decide +kernel
theorem dX12_init_43 : decode cX12_init 43 = .ok (.bipush 7, 2) := by decide +kernel
theorem dX12_init_45 : decode cX12_init 45 = .ok (.newarray .int, 2) := by decide +kernel
theorem dX12_init_47 : decode cX12_init 47 = .ok (.putfield 27, 3) := by decide +kernel
theorem dX12_init_50 : decode cX12_init 50 = .ok (.aload_n 0, 1) := by decide +kernel
theorem dX12_init_51 : decode cX12_init 51 = .ok (.bipush 7, 2) := by decide +kernel
theorem dX12_init_53 : decode cX12_init 53 = .ok (.newarray .boolean, 2) := by decide +kernel
theorem dX12_init_55 : decode cX12_init 55 = .ok (.putfield 30, 3) := by decide +kernel
theorem dX12_init_58 : decode cX12_init 58 = .ok (.aload_n 0, 1) := by decide +kernel
theorem dX12_init_59 : decode cX12_init 59 = .ok (.iconst 2, 1) := by decide +kernel
theorem dX12_init_60 : decode cX12_init 60 = .ok (.newarray .int, 2) := by decide +kernel
theorem dX12_init_62 : decode cX12_init 62 = .ok (.putfield 34, 3) := by decide +kernel
theorem dX12_init_65 : decode cX12_init 65 = .ok (.aload_n 0, 1) := by decide +kernel
theorem dX12_init_66 : decode cX12_init 66 = .ok (.bipush 28, 2) := by decide +kernel
theorem dX12_init_68 : decode cX12_init 68 = .ok (.newarray .int, 2) := by decide +kernel
theorem dX12_init_70 : decode cX12_init 70 = .ok (.putfield 37, 3) := by decide +kernel
theorem dX12_init_73 : decode cX12_init 73 = .ok (.aload_n 0, 1) := by decide +kernel
theorem dX12_init_74 : decode cX12_init 74 = .ok (.bipush 28, 2) := by decide +kernel
theorem dX12_init_76 : decode cX12_init 76 = .ok (.newarray .int, 2) := by decide +kernel
theorem dX12_init_78 : decode cX12_init 78 = .ok (.putfield 40, 3) := by decide +kernel
theorem dX12_init_81 : decode cX12_init 81 = .ok (.aload_n 0, 1) := by decide +kernel
theorem dX12_init_82 : decode cX12_init 82 = .ok (.bipush 28, 2) := by decide +kernel
theorem dX12_init_84 : decode cX12_init 84 = .ok (.newarray .int, 2) := by decide +kernel
theorem dX12_init_86 : decode cX12_init 86 = .ok (.putfield 43, 3) := by decide +kernel
theorem dX12_init_89 : decode cX12_init 89 = .ok (.aload_n 0, 1) := by decide +kernel
theorem dX12_init_90 : decode cX12_init 90 = .ok (.bipush 28, 2) := by decide +kernel
theorem dX12_init_92 : decode cX12_init 92 = .ok (.newarray .int, 2) := by decide +kernel
theorem dX12_init_94 : decode cX12_init 94 = .ok (.putfield 46, 3) := by decide +kernel
theorem dX12_init_97 : decode cX12_init 97 = .ok (.aload_n 0, 1) := by decide +kernel
theorem dX12_init_98 : decode cX12_init 98 = .ok (.sipush 400, 3) := by decide +kernel
theorem dX12_init_101 : decode cX12_init 101 = .ok (.newarray .int, 2) := by decide +kernel
theorem dX12_init_103 : decode cX12_init 103 = .ok (.putfield 49, 3) := by decide +kernel
theorem dX12_init_106 : decode cX12_init 106 = .ok (.aload_n 0, 1) := by decide +kernel
theorem dX12_init_107 : decode cX12_init 107 = .ok (.sipush 400, 3) := by decide +kernel
theorem dX12_init_110 : decode cX12_init 110 = .ok (.newarray .int, 2) := by decide +kernel
theorem dX12_init_112 : decode cX12_init 112 = .ok (.putfield 52, 3) := by decide +kernel
theorem dX12_init_115 : decode cX12_init 115 = .ok (.aload_n 0, 1) := by decide +kernel
theorem dX12_init_116 : decode cX12_init 116 = .ok (.bipush 14, 2) := by decide +kernel
theorem dX12_init_118 : decode cX12_init 118 = .ok (.newarray .int, 2) := by decide +kernel
theorem dX12_init_120 : decode cX12_init 120 = .ok (.putfield 55, 3) := by decide +kernel
theorem dX12_init_123 : decode cX12_init 123 = .ok (.aload_n 0, 1) := by decide +kernel
theorem dX12_init_124 : decode cX12_init 124 = .ok (.bipush 14, 2) := by decide +kernel
theorem dX12_init_126 : decode cX12_init 126 = .ok (.newarray .int, 2) := by decide +kernel
theorem dX12_init_128 : decode cX12_init 128 = .ok (.putfield 58, 3) := by decide +kernel
theorem dX12_init_131 : decode cX12_init 131 = .ok (.aload_n 0, 1) := by decide +kernel
theorem dX12_init_132 : decode cX12_init 132 = .ok (.bipush 14, 2) := by decide +kernel
theorem dX12_init_134 : decode cX12_init 134 = .ok (.newarray .int, 2) := by decide +kernel
theorem dX12_init_136 : decode cX12_init 136 = .ok (.putfield 61, 3) := by decide +kernel
theorem dX12_init_139 : decode cX12_init 139 = .ok (.aload_n 0, 1) := by decide +kernel
theorem dX12_init_140 : decode cX12_init 140 = .ok (.bipush 14, 2) := by decide +kernel
theorem dX12_init_142 : decode cX12_init 142 = .ok (.newarray .int, 2) := by decide +kernel
theorem dX12_init_144 : decode cX12_init 144 = .ok (.putfield 64, 3) := by decide +kernel
theorem dX12_init_147 : decode cX12_init 147 = .ok (.aload_n 0, 1) := by decide +kernel
theorem dX12_init_148 : decode cX12_init 148 = .ok (.sipush 200, 3) := by decide +kernel
theorem dX12_init_151 : decode cX12_init 151 = .ok (.newarray .int, 2) := by decide +kernel
theorem dX12_init_153 : decode cX12_init 153 = .ok (.putfield 67, 3) := by decide +kernel
theorem dX12_init_156 : decode cX12_init 156 = .ok (.aload_n 0, 1) := by decide +kernel
theorem dX12_init_157 : decode cX12_init 157 = .ok (.sipush 200, 3) := by decide +kernel
theorem dX12_init_160 : decode cX12_init 160 = .ok (.newarray .int, 2) := by decide +kernel
theorem dX12_init_162 : decode cX12_init 162 = .ok (.putfield 70, 3) := by decide +kernel
theorem dX12_init_165 : decode cX12_init 165 = .ok (.aload_n 0, 1) := by decide +kernel
theorem dX12_init_166 : decode cX12_init 166 = .ok (.sipush 240, 3) := by decide +kernel
theorem dX12_init_169 : decode cX12_init 169 = .ok (.newarray .int, 2) := by decide +kernel
theorem dX12_init_171 : decode cX12_init 171 = .ok (.putfield 73, 3) := by decide +kernel
theorem dX12_init_174 : decode cX12_init 174 = .ok (.aload_n 0, 1) := by decide +kernel
theorem dX12_init_175 : decode cX12_init 175 = .ok (.bipush 6, 2) := by decide +kernel
theorem dX12_init_177 : decode cX12_init 177 = .ok (.newarray .int, 2) := by decide +kernel
theorem dX12_init_179 : decode cX12_init 179 = .ok (.putfield 76, 3) := by decide +kernel
theorem dX12_init_182 : decode cX12_init 182 = .ok (.aload_n 0, 1) := by decide +kernel
theorem dX12_init_183 : decode cX12_init 183 = .ok (.sipush 240, 3) := by decide +kernel
theorem dX12_init_186 : decode cX12_init 186 = .ok (.newarray .int, 2) := by decide +kernel
theorem dX12_init_188 : decode cX12_init 188 = .ok (.putfield 79, 3) := by decide +kernel
theorem dX12_init_191 : decode cX12_init 191 = .ok (.aload_n 0, 1) := by decide +kernel
theorem dX12_init_192 : decode cX12_init 192 = .ok (.sipush 240, 3) := by decide +kernel
theorem dX12_init_195 : decode cX12_init 195 = .ok (.newarray .boolean, 2) := by decide +kernel
theorem dX12_init_197 : decode cX12_init 197 = .ok (.putfield 82, 3) := by decide +kernel
theorem dX12_init_200 : decode cX12_init 200 = .ok (.aload_n 0, 1) := by decide +kernel
theorem dX12_init_201 : decode cX12_init 201 = .ok (.sipush 200, 3) := by decide +kernel
theorem dX12_init_204 : decode cX12_init 204 = .ok (.newarray .int, 2) := by decide +kernel
theorem dX12_init_206 : decode cX12_init 206 = .ok (.putfield 85, 3) := by decide +kernel
theorem dX12_init_209 : decode cX12_init 209 = .ok (.aload_n 0, 1) := by decide +kernel
theorem dX12_init_210 : decode cX12_init 210 = .ok (.sipush 200, 3) := by decide +kernel
theorem dX12_init_213 : decode cX12_init 213 = .ok (.newarray .int, 2) := by decide +kernel
theorem dX12_init_215 : decode cX12_init 215 = .ok (.putfield 88, 3) := by decide +kernel
theorem dX12_init_218 : decode cX12_init 218 = .ok (.aload_n 0, 1) := by decide +kernel
theorem dX12_init_219 : decode cX12_init 219 = .ok (.sipush 200, 3) := by decide +kernel
theorem dX12_init_222 : decode cX12_init 222 = .ok (.newarray .int, 2) := by decide +kernel
theorem dX12_init_224 : decode cX12_init 224 = .ok (.putfield 91, 3) := by decide +kernel
theorem dX12_init_227 : decode cX12_init 227 = .ok (.aload_n 0, 1) := by decide +kernel
theorem dX12_init_228 : decode cX12_init 228 = .ok (.bipush 12, 2) := by decide +kernel
theorem dX12_init_230 : decode cX12_init 230 = .ok (.newarray .int, 2) := by decide +kernel
theorem dX12_init_232 : decode cX12_init 232 = .ok (.putfield 94, 3) := by decide +kernel
theorem dX12_init_235 : decode cX12_init 235 = .ok (.aload_n 0, 1) := by decide +kernel
theorem dX12_init_236 : decode cX12_init 236 = .ok (.bipush 12, 2) := by decide +kernel
theorem dX12_init_238 : decode cX12_init 238 = .ok (.newarray .int, 2) := by decide +kernel
theorem dX12_init_240 : decode cX12_init 240 = .ok (.putfield 97, 3) := by decide +kernel
theorem dX12_init_243 : decode cX12_init 243 = .ok (.aload_n 0, 1) := by decide +kernel
theorem dX12_init_244 : decode cX12_init 244 = .ok (.bipush 12, 2) := by decide +kernel
theorem dX12_init_246 : decode cX12_init 246 = .ok (.newarray .int, 2) := by decide +kernel
theorem dX12_init_248 : decode cX12_init 248 = .ok (.putfield 100, 3) := by decide +kernel
theorem dX12_init_251 : decode cX12_init 251 = .ok (.aload_n 0, 1) := by decide +kernel
theorem dX12_init_252 : decode cX12_init 252 = .ok (.sipush 7500, 3) := by decide +kernel
theorem dX12_init_255 : decode cX12_init 255 = .ok (.newarray .int, 2) := by decide +kernel
theorem dX12_init_257 : decode cX12_init 257 = .ok (.putfield 103, 3) := by decide +kernel
theorem dX12_init_260 : decode cX12_init 260 = .ok (.aload_n 0, 1) := by decide +kernel
theorem dX12_init_261 : decode cX12_init 261 = .ok (.sipush 8125, 3) := by decide +kernel
theorem dX12_init_264 : decode cX12_init 264 = .ok (.newarray .int, 2) := by decide +kernel
theorem dX12_init_266 : decode cX12_init 266 = .ok (.putfield 106, 3) := by decide +kernel
theorem dX12_init_269 : decode cX12_init 269 = .ok (.aload_n 0, 1) := by decide +kernel
theorem dX12_init_270 : decode cX12_init 270 = .ok (.sipush 8125, 3) := by decide +kernel
theorem dX12_init_273 : decode cX12_init 273 = .ok (.newarray .boolean, 2) := by decide +kernel
theorem dX12_init_275 : decode cX12_init 275 = .ok (.putfield 109, 3) := by decide +kernel
theorem dX12_init_278 : decode cX12_init 278 = .ok (.aload_n 0, 1) := by decide +kernel
theorem dX12_init_279 : decode cX12_init 279 = .ok (.bipush 8, 2) := by decide +kernel
theorem dX12_init_281 : decode cX12_init 281 = .ok (.newarray .int, 2) := by decide +kernel
theorem dX12_init_283 : decode cX12_init 283 = .ok (.putfield 112, 3) := by decide +kernel
theorem dX12_init_286 : decode cX12_init 286 = .ok (.aload_n 0, 1) := by decide +kernel
theorem dX12_init_287 : decode cX12_init 287 = .ok (.iconst 4, 1) := by decide +kernel
theorem dX12_init_288 : decode cX12_init 288 = .ok (.newarray .int, 2) := by decide +kernel
theorem dX12_init_290 : decode cX12_init 290 = .ok (.putfield 115, 3) := by decide +kernel
theorem dX12_init_293 : decode cX12_init 293 = .ok (.aload_n 0, 1) := by decide +kernel
theorem dX12_init_294 : decode cX12_init 294 = .ok (.sipush 12500, 3) := by decide +kernel
theorem dX12_init_297 : decode cX12_init 297 = .ok (.newarray .int, 2) := by decide +kernel
theorem dX12_init_299 : decode cX12_init 299 = .ok (.putfield 118, 3) := by decide +kernel
theorem dX12_init_302 : decode cX12_init 302 = .ok (.aload_n 0, 1) := by decide +kernel
theorem dX12_init_303 : decode cX12_init 303 = .ok (.sipush 625, 3) := by decide +kernel
theorem dX12_init_306 : decode cX12_init 306 = .ok (.newarray .boolean, 2) := by decide +kernel
theorem dX12_init_308 : decode cX12_init 308 = .ok (.putfield 121, 3) := by decide +kernel
theorem dX12_init_311 : decode cX12_init 311 = .ok (.aload_n 0, 1) := by decide +kernel
theorem dX12_init_312 : decode cX12_init 312 = .ok (.sipush 625, 3) := by decide +kernel
theorem dX12_init_315 : decode cX12_init 315 = .ok (.newarray .boolean, 2) := by decide +kernel
theorem dX12_init_317 : decode cX12_init 317 = .ok (.putfield 124, 3) := by decide +kernel
theorem dX12_init_320 : decode cX12_init 320 = .ok (.aload_n 0, 1) := by decide +kernel
theorem dX12_init_321 : decode cX12_init 321 = .ok (.sipush 4375, 3) := by decide +kernel
theorem dX12_init_324 : decode cX12_init 324 = .ok (.newarray .int, 2) := by decide +kernel
theorem dX12_init_326 : decode cX12_init 326 = .ok (.putfield 127, 3) := by decide +kernel
theorem dX12_init_329 : decode cX12_init 329 = .ok (.aload_n 0, 1) := by decide +kernel
theorem dX12_init_330 : decode cX12_init 330 = .ok (.sipush 4375, 3) := by decide +kernel
theorem dX12_init_333 : decode cX12_init 333 = .ok (.newarray .boolean, 2) := by decide +kernel
theorem dX12_init_335 : decode cX12_init 335 = .ok (.putfield 130, 3) := by decide +kernel
theorem dX12_init_338 : decode cX12_init 338 = .ok (.aload_n 0, 1) := by decide +kernel
theorem dX12_init_339 : decode cX12_init 339 = .ok (.sipush 4375, 3) := by decide +kernel
theorem dX12_init_342 : decode cX12_init 342 = .ok (.newarray .boolean, 2) := by decide +kernel
theorem dX12_init_344 : decode cX12_init 344 = .ok (.putfield 133, 3) := by decide +kernel
theorem dX12_init_347 : decode cX12_init 347 = .ok (.aload_n 0, 1) := by decide +kernel
theorem dX12_init_348 : decode cX12_init 348 = .ok (.sipush 1250, 3) := by decide +kernel
theorem dX12_init_351 : decode cX12_init 351 = .ok (.newarray .int, 2) := by decide +kernel
theorem dX12_init_353 : decode cX12_init 353 = .ok (.putfield 136, 3) := by decide +kernel
theorem dX12_init_356 : decode cX12_init 356 = .ok (.aload_n 0, 1) := by decide +kernel
theorem dX12_init_357 : decode cX12_init 357 = .ok (.sipush 4375, 3) := by decide +kernel
theorem dX12_init_360 : decode cX12_init 360 = .ok (.newarray .boolean, 2) := by decide +kernel
theorem dX12_init_362 : decode cX12_init 362 = .ok (.putfield 139, 3) := by decide +kernel
theorem dX12_init_365 : decode cX12_init 365 = .ok (.aload_n 0, 1) := by decide +kernel
theorem dX12_init_366 : decode cX12_init 366 = .ok (.bipush 8, 2) := by decide +kernel
theorem dX12_init_368 : decode cX12_init 368 = .ok (.newarray .int, 2) := by decide +kernel
theorem dX12_init_370 : decode cX12_init 370 = .ok (.putfield 142, 3) := by decide +kernel
theorem dX12_init_373 : decode cX12_init 373 = .ok (.aload_n 0, 1) := by decide +kernel
theorem dX12_init_374 : decode cX12_init 374 = .ok (.sipush 200, 3) := by decide +kernel
theorem dX12_init_377 : decode cX12_init 377 = .ok (.newarray .int, 2) := by decide +kernel
theorem dX12_init_379 : decode cX12_init 379 = .ok (.putfield 145, 3) := by decide +kernel
theorem dX12_init_382 : decode cX12_init 382 = .ok (.aload_n 0, 1) := by decide +kernel
theorem dX12_init_383 : decode cX12_init 383 = .ok (.sipush 200, 3) := by decide +kernel
theorem dX12_init_386 : decode cX12_init 386 = .ok (.newarray .int, 2) := by decide +kernel
theorem dX12_init_388 : decode cX12_init 388 = .ok (.putfield 148, 3) := by decide +kernel
theorem dX12_init_391 : decode cX12_init 391 = .ok (.aload_n 0, 1) := by decide +kernel
theorem dX12_init_392 : decode cX12_init 392 = .ok (.sipush 200, 3) := by decide +kernel
theorem dX12_init_395 : decode cX12_init 395 = .ok (.newarray .int, 2) := by decide +kernel
theorem dX12_init_397 : decode cX12_init 397 = .ok (.putfield 151, 3) := by decide +kernel
theorem dX12_init_400 : decode cX12_init 400 = .ok (.aload_n 0, 1) := by decide +kernel
theorem dX12_init_401 : decode cX12_init 401 = .ok (.bipush 6, 2) := by decide +kernel
theorem dX12_init_403 : decode cX12_init 403 = .ok (.newarray .int, 2) := by decide +kernel
theorem dX12_init_405 : decode cX12_init 405 = .ok (.putfield 154, 3) := by decide +kernel
theorem dX12_init_408 : decode cX12_init 408 = .ok (.return_, 1) := by decide +kernel
theorem dX12_lies_0 : decode cX12_lies 0 = .ok (.lload_n 0, 1) := by decide +kernel
theorem dX12_lies_1 : decode cX12_lies 1 = .ok (.lload_n 2, 1) := by decide +kernel
theorem dX12_lies_2 : decode cX12_lies 2 = .ok (.lcmp, 1) := by decide +kernel
theorem dX12_lies_3 : decode cX12_lies 3 = .ok (.ifCond .lt 14, 3) := by decide +kernel
theorem dX12_lies_6 : decode cX12_lies 6 = .ok (.lload_n 0, 1) := by decide +kernel
theorem dX12_lies_7 : decode cX12_lies 7 = .ok (.lload 4, 2) := by decide +kernel
theorem dX12_lies_9 : decode cX12_lies 9 = .ok (.lcmp, 1) := by decide +kernel
theorem dX12_lies_10 : decode cX12_lies 10 = .ok (.ifCond .gt 7, 3) := by decide +kernel
theorem dX12_lies_13 : decode cX12_lies 13 = .ok (.iconst 1, 1) := by decide +kernel
theorem dX12_lies_14 : decode cX12_lies 14 = .ok (.goto 4, 3) := by decide +kernel
theorem dX12_lies_17 : decode cX12_lies 17 = .ok (.iconst 0, 1) := by decide +kernel
theorem dX12_lies_18 : decode cX12_lies 18 = .ok (.ireturn, 1) := by decide +kernel
theorem dX12_push_0 : decode cX12_push 0 = .ok (.bipush 24, 2) := by decide +kernel
theorem dX12_push_2 : decode cX12_push 2 = .ok (.istore_n 2, 1) := by decide +kernel
theorem dX12_push_3 : decode cX12_push 3 = .ok (.iload_n 2, 1) := by decide +kernel
theorem dX12_push_4 : decode cX12_push 4 = .ok (.ifCond .lt 32, 3) := by decide +kernel
theorem dX12_push_7 : decode cX12_push 7 = .ok (.aload_n 0, 1) := by decide +kernel
theorem dX12_push_8 : decode cX12_push 8 = .ok (.getfield 7, 3) := by decide +kernel
theorem dX12_push_11 : decode cX12_push 11 = .ok (.aload_n 0, 1) := by decide +kernel
theorem dX12_push_12 : decode cX12_push 12 = .ok (.getfield 157, 3) := by decide +kernel
theorem dX12_push_15 : decode cX12_push 15 = .ok (.iload_n 1, 1) := by decide +kernel
theorem dX12_push_16 : decode cX12_push 16 = .ok (.iload_n 2, 1) := by decide +kernel
theorem dX12_push_17 : decode cX12_push 17 = .ok (.ishr, 1) := by decide +kernel
theorem dX12_push_18 : decode cX12_push 18 = .ok (.i2b, 1) := by decide +kernel
theorem dX12_push_19 : decode cX12_push 19 = .ok (.bastore, 1) := by decide +kernel
theorem dX12_push_20 : decode cX12_push 20 = .ok (.aload_n 0, 1) := by decide +kernel
theorem dX12_push_21 : decode cX12_push 21 = .ok (.dup, 1) := by decide +kernel
theorem dX12_push_22 : decode cX12_push 22 = .ok (.getfield 157, 3) := by decide +kernel
theorem dX12_push_25 : decode cX12_push 25 = .ok (.iconst 1, 1) := by decide +kernel
theorem dX12_push_26 : decode cX12_push 26 = .ok (.iadd, 1) := by decide +kernel
theorem dX12_push_27 : decode cX12_push 27 = .ok (.putfield 157, 3) := by decide +kernel
theorem dX12_push_30 : decode cX12_push 30 = .ok (.iinc 2 (-8), 3) := by decide +kernel
theorem dX12_push_33 : decode cX12_push 33 = .ok (.goto (-30), 3) := by decide +kernel
theorem dX12_push_36 : decode cX12_push 36 = .ok (.return_, 1) := by decide +kernel
theorem dX12_isGood_0 : decode cX12_isGood 0 = .ok (.aload_n 0, 1) := by decide +kernel
theorem dX12_isGood_1 : decode cX12_isGood 1 = .ok (.getfield 170, 3) := by decide +kernel
theorem dX12_isGood_4 : decode cX12_isGood 4 = .ok (.ifCond .ne 7, 3) := by decide +kernel
theorem dX12_isGood_7 : decode cX12_isGood 7 = .ok (.iconst 1, 1) := by decide +kernel
theorem dX12_isGood_8 : decode cX12_isGood 8 = .ok (.goto 4, 3) := by decide +kernel
theorem dX12_isGood_11 : decode cX12_isGood 11 = .ok (.iconst 0, 1) := by decide +kernel
theorem dX12_isGood_12 : decode cX12_isGood 12 = .ok (.ireturn, 1) := by decide +kernel
theorem dX12_isThing_0 : decode cX12_isThing 0 = .ok (.iload_n 0, 1) := by decide +kernel
theorem dX12_isThing_1 : decode cX12_isThing 1 = .ok (.i2l, 1) := by decide +kernel
theorem dX12_isThing_2 : decode cX12_isThing 2 = .ok (.lconst 0, 1) := by decide +kernel
theorem dX12_isThing_3 : decode cX12_isThing 3 = .ok (.ldc2_w 185, 3) := by decide +kernel
theorem dX12_isThing_6 : decode cX12_isThing 6 = .ok (.invokestatic 181, 3) := by decide +kernel
theorem dX12_isThing_9 : decode cX12_isThing 9 = .ok (.ireturn, 1) := by decide +kernel
theorem dX12_lengths_0 : decode cX12_lengths 0 = .ok (.iload_n 1, 1) := by decide +kernel
theorem dX12_lengths_1 : decode cX12_lengths 1 = .ok (.invokestatic 229, 3) := by decide +kernel
theorem dX12_lengths_4 : decode cX12_lengths 4 = .ok (.ifCond .eq 12, 3) := by decide +kernel
theorem dX12_lengths_7 : decode cX12_lengths 7 = .ok (.aload_n 0, 1) := by decide +kernel
theorem dX12_lengths_8 : decode cX12_lengths 8 = .ok (.getfield 17, 3) := by decide +kernel
theorem dX12_lengths_11 : decode cX12_lengths 11 = .ok (.iload_n 1, 1) := by decide +kernel
theorem dX12_lengths_12 : decode cX12_lengths 12 = .ok (.iaload, 1) := by decide +kernel
theorem dX12_lengths_13 : decode cX12_lengths 13 = .ok (.goto 4, 3) := by decide +kernel
theorem dX12_lengths_16 : decode cX12_lengths 16 = .ok (.iconst (-1), 1) := by decide +kernel
theorem dX12_lengths_17 : decode cX12_lengths 17 = .ok (.ireturn, 1) := by decide +kernel
theorem dX12_puts_0 : decode cX12_puts 0 = .ok (.aload_n 0, 1) := by decide +kernel
theorem dX12_puts_1 : decode cX12_puts 1 = .ok (.getfield 73, 3) := by decide +kernel
theorem dX12_puts_4 : decode cX12_puts 4 = .ok (.aload_n 0, 1) := by decide +kernel
theorem dX12_puts_5 : decode cX12_puts 5 = .ok (.getfield 245, 3) := by decide +kernel
theorem dX12_puts_8 : decode cX12_puts 8 = .ok (.iload_n 1, 1) := by decide +kernel
theorem dX12_puts_9 : decode cX12_puts 9 = .ok (.iastore, 1) := by decide +kernel
theorem dX12_puts_10 : decode cX12_puts 10 = .ok (.aload_n 0, 1) := by decide +kernel
theorem dX12_puts_11 : decode cX12_puts 11 = .ok (.dup, 1) := by decide +kernel
theorem dX12_puts_12 : decode cX12_puts 12 = .ok (.getfield 245, 3) := by decide +kernel
theorem dX12_puts_15 : decode cX12_puts 15 = .ok (.iconst 1, 1) := by decide +kernel
theorem dX12_puts_16 : decode cX12_puts 16 = .ok (.iadd, 1) := by decide +kernel
theorem dX12_puts_17 : decode cX12_puts 17 = .ok (.putfield 245, 3) := by decide +kernel
theorem dX12_puts_20 : decode cX12_puts 20 = .ok (.aload_n 0, 1) := by decide +kernel
theorem dX12_puts_21 : decode cX12_puts 21 = .ok (.dup, 1) := by decide +kernel
theorem dX12_puts_22 : decode cX12_puts 22 = .ok (.getfield 164, 3) := by decide +kernel
theorem dX12_puts_25 : decode cX12_puts 25 = .ok (.iconst 1, 1) := by decide +kernel
theorem dX12_puts_26 : decode cX12_puts 26 = .ok (.iadd, 1) := by decide +kernel
theorem dX12_puts_27 : decode cX12_puts 27 = .ok (.putfield 164, 3) := by decide +kernel
theorem dX12_puts_30 : decode cX12_puts 30 = .ok (.return_, 1) := by decide +kernel
theorem dX12_opens_0 : decode cX12_opens 0 = .ok (.aload_n 0, 1) := by decide +kernel
theorem dX12_opens_1 : decode cX12_opens 1 = .ok (.getfield 248, 3) := by decide +kernel
theorem dX12_opens_4 : decode cX12_opens 4 = .ok (.bipush 6, 2) := by decide +kernel
theorem dX12_opens_6 : decode cX12_opens 6 = .ok (.if_icmp .ne 12, 3) := by decide +kernel
theorem dX12_opens_9 : decode cX12_opens 9 = .ok (.aload_n 0, 1) := by decide +kernel
theorem dX12_opens_10 : decode cX12_opens 10 = .ok (.iconst 5, 1) := by decide +kernel
theorem dX12_opens_11 : decode cX12_opens 11 = .ok (.aload_n 0, 1) := by decide +kernel
theorem dX12_opens_12 : decode cX12_opens 12 = .ok (.getfield 164, 3) := by decide +kernel
theorem dX12_opens_15 : decode cX12_opens 15 = .ok (.invokevirtual 205, 3) := by decide +kernel
theorem dX12_opens_18 : decode cX12_opens 18 = .ok (.aload_n 0, 1) := by decide +kernel
theorem dX12_opens_19 : decode cX12_opens 19 = .ok (.dup, 1) := by decide +kernel
theorem dX12_opens_20 : decode cX12_opens 20 = .ok (.getfield 248, 3) := by decide +kernel
theorem dX12_opens_23 : decode cX12_opens 23 = .ok (.iconst 1, 1) := by decide +kernel
theorem dX12_opens_24 : decode cX12_opens 24 = .ok (.iadd, 1) := by decide +kernel
theorem dX12_opens_25 : decode cX12_opens 25 = .ok (.putfield 248, 3) := by decide +kernel
theorem dX12_opens_28 : decode cX12_opens 28 = .ok (.aload_n 0, 1) := by decide +kernel
theorem dX12_opens_29 : decode cX12_opens 29 = .ok (.aload_n 0, 1) := by decide +kernel
theorem dX12_opens_30 : decode cX12_opens 30 = .ok (.invokevirtual 173, 3) := by decide +kernel
theorem dX12_opens_33 : decode cX12_opens 33 = .ok (.invokevirtual 251, 3) := by decide +kernel
theorem dX12_opens_36 : decode cX12_opens 36 = .ok (.return_, 1) := by decide +kernel
theorem dX12_isTimes_0 : decode cX12_isTimes 0 = .ok (.iload_n 0, 1) := by decide +kernel
theorem dX12_isTimes_1 : decode cX12_isTimes 1 = .ok (.bipush 42, 2) := by decide +kernel
theorem dX12_isTimes_3 : decode cX12_isTimes 3 = .ok (.if_icmp .eq 15, 3) := by decide +kernel
theorem dX12_isTimes_6 : decode cX12_isTimes 6 = .ok (.iload_n 0, 1) := by decide +kernel
theorem dX12_isTimes_7 : decode cX12_isTimes 7 = .ok (.bipush 47, 2) := by decide +kernel
theorem dX12_isTimes_9 : decode cX12_isTimes 9 = .ok (.if_icmp .eq 9, 3) := by decide +kernel
theorem dX12_isTimes_12 : decode cX12_isTimes 12 = .ok (.iload_n 0, 1) := by decide +kernel
theorem dX12_isTimes_13 : decode cX12_isTimes 13 = .ok (.bipush 37, 2) := by decide +kernel
theorem dX12_isTimes_15 : decode cX12_isTimes 15 = .ok (.if_icmp .ne 7, 3) := by decide +kernel
theorem dX12_isTimes_18 : decode cX12_isTimes 18 = .ok (.iconst 1, 1) := by decide +kernel
theorem dX12_isTimes_19 : decode cX12_isTimes 19 = .ok (.goto 4, 3) := by decide +kernel
theorem dX12_isTimes_22 : decode cX12_isTimes 22 = .ok (.iconst 0, 1) := by decide +kernel
theorem dX12_isTimes_23 : decode cX12_isTimes 23 = .ok (.ireturn, 1) := by decide +kernel
theorem dX12_isPlus_0 : decode cX12_isPlus 0 = .ok (.iload_n 0, 1) := by decide +kernel
theorem dX12_isPlus_1 : decode cX12_isPlus 1 = .ok (.bipush 43, 2) := by decide +kernel
theorem dX12_isPlus_3 : decode cX12_isPlus 3 = .ok (.if_icmp .eq 9, 3) := by decide +kernel
theorem dX12_isPlus_6 : decode cX12_isPlus 6 = .ok (.iload_n 0, 1) := by decide +kernel
theorem dX12_isPlus_7 : decode cX12_isPlus 7 = .ok (.bipush 45, 2) := by decide +kernel
theorem dX12_isPlus_9 : decode cX12_isPlus 9 = .ok (.if_icmp .ne 7, 3) := by decide +kernel
theorem dX12_isPlus_12 : decode cX12_isPlus 12 = .ok (.iconst 1, 1) := by decide +kernel
theorem dX12_isPlus_13 : decode cX12_isPlus 13 = .ok (.goto 4, 3) := by decide +kernel
theorem dX12_isPlus_16 : decode cX12_isPlus 16 = .ok (.iconst 0, 1) := by decide +kernel
theorem dX12_isPlus_17 : decode cX12_isPlus 17 = .ok (.ireturn, 1) := by decide +kernel
theorem dX12_isSign_0 : decode cX12_isSign 0 = .ok (.iload_n 0, 1) := by decide +kernel
theorem dX12_isSign_1 : decode cX12_isSign 1 = .ok (.bipush 60, 2) := by decide +kernel
theorem dX12_isSign_3 : decode cX12_isSign 3 = .ok (.if_icmp .eq 15, 3) := by decide +kernel
theorem dX12_isSign_6 : decode cX12_isSign 6 = .ok (.iload_n 0, 1) := by decide +kernel
theorem dX12_isSign_7 : decode cX12_isSign 7 = .ok (.bipush 62, 2) := by decide +kernel
theorem dX12_isSign_9 : decode cX12_isSign 9 = .ok (.if_icmp .eq 9, 3) := by decide +kernel
theorem dX12_isSign_12 : decode cX12_isSign 12 = .ok (.iload_n 0, 1) := by decide +kernel
theorem dX12_isSign_13 : decode cX12_isSign 13 = .ok (.bipush 61, 2) := by decide +kernel
theorem dX12_isSign_15 : decode cX12_isSign 15 = .ok (.if_icmp .ne 7, 3) := by decide +kernel
theorem dX12_isSign_18 : decode cX12_isSign 18 = .ok (.iconst 1, 1) := by decide +kernel
theorem dX12_isSign_19 : decode cX12_isSign 19 = .ok (.goto 4, 3) := by decide +kernel
theorem dX12_isSign_22 : decode cX12_isSign 22 = .ok (.iconst 0, 1) := by decide +kernel
theorem dX12_isSign_23 : decode cX12_isSign 23 = .ok (.ireturn, 1) := by decide +kernel
theorem dX12_isValue_0 : decode cX12_isValue 0 = .ok (.iload_n 0, 1) := by decide +kernel
theorem dX12_isValue_1 : decode cX12_isValue 1 = .ok (.bipush 108, 2) := by decide +kernel
theorem dX12_isValue_3 : decode cX12_isValue 3 = .ok (.if_icmp .eq 51, 3) := by decide +kernel
theorem dX12_isValue_6 : decode cX12_isValue 6 = .ok (.iload_n 0, 1) := by decide +kernel
theorem dX12_isValue_7 : decode cX12_isValue 7 = .ok (.bipush 116, 2) := by decide +kernel
theorem dX12_isValue_9 : decode cX12_isValue 9 = .ok (.if_icmp .eq 45, 3) := by decide +kernel
theorem dX12_isValue_12 : decode cX12_isValue 12 = .ok (.iload_n 0, 1) := by decide +kernel
theorem dX12_isValue_13 : decode cX12_isValue 13 = .ok (.bipush 115, 2) := by decide +kernel
theorem dX12_isValue_15 : decode cX12_isValue 15 = .ok (.if_icmp .eq 39, 3) := by decide +kernel
theorem dX12_isValue_18 : decode cX12_isValue 18 = .ok (.iload_n 0, 1) := by decide +kernel
theorem dX12_isValue_19 : decode cX12_isValue 19 = .ok (.bipush 99, 2) := by decide +kernel
theorem dX12_isValue_21 : decode cX12_isValue 21 = .ok (.if_icmp .eq 33, 3) := by decide +kernel
theorem dX12_isValue_24 : decode cX12_isValue 24 = .ok (.iload_n 0, 1) := by decide +kernel
theorem dX12_isValue_25 : decode cX12_isValue 25 = .ok (.bipush 97, 2) := by decide +kernel
theorem dX12_isValue_27 : decode cX12_isValue 27 = .ok (.if_icmp .eq 27, 3) := by decide +kernel
theorem dX12_isValue_30 : decode cX12_isValue 30 = .ok (.iload_n 0, 1) := by decide +kernel
theorem dX12_isValue_31 : decode cX12_isValue 31 = .ok (.bipush 98, 2) := by decide +kernel
theorem dX12_isValue_33 : decode cX12_isValue 33 = .ok (.if_icmp .eq 21, 3) := by decide +kernel
theorem dX12_isValue_36 : decode cX12_isValue 36 = .ok (.iload_n 0, 1) := by decide +kernel
theorem dX12_isValue_37 : decode cX12_isValue 37 = .ok (.bipush 114, 2) := by decide +kernel
theorem dX12_isValue_39 : decode cX12_isValue 39 = .ok (.if_icmp .eq 15, 3) := by decide +kernel
theorem dX12_isValue_42 : decode cX12_isValue 42 = .ok (.iload_n 0, 1) := by decide +kernel
theorem dX12_isValue_43 : decode cX12_isValue 43 = .ok (.bipush 100, 2) := by decide +kernel
theorem dX12_isValue_45 : decode cX12_isValue 45 = .ok (.if_icmp .eq 9, 3) := by decide +kernel
theorem dX12_isValue_48 : decode cX12_isValue 48 = .ok (.iload_n 0, 1) := by decide +kernel
theorem dX12_isValue_49 : decode cX12_isValue 49 = .ok (.bipush 107, 2) := by decide +kernel
theorem dX12_isValue_51 : decode cX12_isValue 51 = .ok (.if_icmp .ne 7, 3) := by decide +kernel
theorem dX12_isValue_54 : decode cX12_isValue 54 = .ok (.iconst 1, 1) := by decide +kernel
theorem dX12_isValue_55 : decode cX12_isValue 55 = .ok (.goto 4, 3) := by decide +kernel
theorem dX12_isValue_58 : decode cX12_isValue 58 = .ok (.iconst 0, 1) := by decide +kernel
theorem dX12_isValue_59 : decode cX12_isValue 59 = .ok (.ireturn, 1) := by decide +kernel
theorem dX12_joins_0 : decode cX12_joins 0 = .ok (.aload_n 0, 1) := by decide +kernel
theorem dX12_joins_1 : decode cX12_joins 1 = .ok (.invokevirtual 257, 3) := by decide +kernel
theorem dX12_joins_4 : decode cX12_joins 4 = .ok (.bipush 38, 2) := by decide +kernel
theorem dX12_joins_6 : decode cX12_joins 6 = .ok (.if_icmp .eq 16, 3) := by decide +kernel
theorem dX12_joins_9 : decode cX12_joins 9 = .ok (.iload_n 1, 1) := by decide +kernel
theorem dX12_joins_10 : decode cX12_joins 10 = .ok (.ifCond .eq 34, 3) := by decide +kernel
theorem dX12_joins_13 : decode cX12_joins 13 = .ok (.aload_n 0, 1) := by decide +kernel
theorem dX12_joins_14 : decode cX12_joins 14 = .ok (.invokevirtual 257, 3) := by decide +kernel
theorem dX12_joins_17 : decode cX12_joins 17 = .ok (.bipush 124, 2) := by decide +kernel
theorem dX12_joins_19 : decode cX12_joins 19 = .ok (.if_icmp .ne 25, 3) := by decide +kernel
theorem dX12_joins_22 : decode cX12_joins 22 = .ok (.aload_n 0, 1) := by decide +kernel
theorem dX12_joins_23 : decode cX12_joins 23 = .ok (.aload_n 0, 1) := by decide +kernel
theorem dX12_joins_24 : decode cX12_joins 24 = .ok (.invokevirtual 257, 3) := by decide +kernel
theorem dX12_joins_27 : decode cX12_joins 27 = .ok (.iconst 0, 1) := by decide +kernel
theorem dX12_joins_28 : decode cX12_joins 28 = .ok (.invokevirtual 266, 3) := by decide +kernel
theorem dX12_joins_31 : decode cX12_joins 31 = .ok (.aload_n 0, 1) := by decide +kernel
theorem dX12_joins_32 : decode cX12_joins 32 = .ok (.dup, 1) := by decide +kernel
theorem dX12_joins_33 : decode cX12_joins 33 = .ok (.getfield 245, 3) := by decide +kernel
theorem dX12_joins_36 : decode cX12_joins 36 = .ok (.iconst 1, 1) := by decide +kernel
theorem dX12_joins_37 : decode cX12_joins 37 = .ok (.isub, 1) := by decide +kernel
theorem dX12_joins_38 : decode cX12_joins 38 = .ok (.putfield 245, 3) := by decide +kernel
theorem dX12_joins_41 : decode cX12_joins 41 = .ok (.goto (-41), 3) := by decide +kernel
theorem dX12_joins_44 : decode cX12_joins 44 = .ok (.return_, 1) := by decide +kernel
theorem dX12_pieceOfC_0 : decode cX12_pieceOfC 0 = .ok (.aload_n 0, 1) := by decide +kernel
theorem dX12_pieceOfC_1 : decode cX12_pieceOfC 1 = .ok (.invokevirtual 209, 3) := by decide +kernel
theorem dX12_pieceOfC_4 : decode cX12_pieceOfC 4 = .ok (.ifCond .eq 28, 3) := by decide +kernel
theorem dX12_pieceOfC_7 : decode cX12_pieceOfC 7 = .ok (.aload_n 0, 1) := by decide +kernel
theorem dX12_pieceOfC_8 : decode cX12_pieceOfC 8 = .ok (.invokevirtual 173, 3) := by decide +kernel
theorem dX12_pieceOfC_11 : decode cX12_pieceOfC 11 = .ok (.bipush 33, 2) := by decide +kernel
theorem dX12_pieceOfC_13 : decode cX12_pieceOfC 13 = .ok (.if_icmp .eq 12, 3) := by decide +kernel
theorem dX12_pieceOfC_16 : decode cX12_pieceOfC 16 = .ok (.aload_n 0, 1) := by decide +kernel
theorem dX12_pieceOfC_17 : decode cX12_pieceOfC 17 = .ok (.invokevirtual 173, 3) := by decide +kernel
theorem dX12_pieceOfC_20 : decode cX12_pieceOfC 20 = .ok (.bipush 40, 2) := by decide +kernel
theorem dX12_pieceOfC_22 : decode cX12_pieceOfC 22 = .ok (.if_icmp .ne 10, 3) := by decide +kernel
theorem dX12_pieceOfC_25 : decode cX12_pieceOfC 25 = .ok (.aload_n 0, 1) := by decide +kernel
theorem dX12_pieceOfC_26 : decode cX12_pieceOfC 26 = .ok (.invokevirtual 269, 3) := by decide +kernel
theorem dX12_pieceOfC_29 : decode cX12_pieceOfC 29 = .ok (.goto (-29), 3) := by decide +kernel
theorem dX12_pieceOfC_32 : decode cX12_pieceOfC 32 = .ok (.aload_n 0, 1) := by decide +kernel
theorem dX12_pieceOfC_33 : decode cX12_pieceOfC 33 = .ok (.invokevirtual 209, 3) := by decide +kernel
theorem dX12_pieceOfC_36 : decode cX12_pieceOfC 36 = .ok (.ifCond .eq 7, 3) := by decide +kernel
theorem dX12_pieceOfC_39 : decode cX12_pieceOfC 39 = .ok (.aload_n 0, 1) := by decide +kernel
theorem dX12_pieceOfC_40 : decode cX12_pieceOfC 40 = .ok (.invokevirtual 292, 3) := by decide +kernel
theorem dX12_pieceOfC_43 : decode cX12_pieceOfC 43 = .ok (.aload_n 0, 1) := by decide +kernel
theorem dX12_pieceOfC_44 : decode cX12_pieceOfC 44 = .ok (.invokevirtual 209, 3) := by decide +kernel
theorem dX12_pieceOfC_47 : decode cX12_pieceOfC 47 = .ok (.ifCond .ne 4, 3) := by decide +kernel
theorem dX12_pieceOfC_50 : decode cX12_pieceOfC 50 = .ok (.return_, 1) := by decide +kernel
theorem dX12_pieceOfC_51 : decode cX12_pieceOfC 51 = .ok (.aload_n 0, 1) := by decide +kernel
theorem dX12_pieceOfC_52 : decode cX12_pieceOfC 52 = .ok (.invokevirtual 173, 3) := by decide +kernel
theorem dX12_pieceOfC_55 : decode cX12_pieceOfC 55 = .ok (.istore_n 1, 1) := by decide +kernel
theorem dX12_pieceOfC_56 : decode cX12_pieceOfC 56 = .ok (.iload_n 1, 1) := by decide +kernel
theorem dX12_pieceOfC_57 : decode cX12_pieceOfC 57 = .ok (.invokestatic 295, 3) := by decide +kernel
theorem dX12_pieceOfC_60 : decode cX12_pieceOfC 60 = .ok (.ifCond .ne 13, 3) := by decide +kernel
theorem dX12_pieceOfC_63 : decode cX12_pieceOfC 63 = .ok (.aload_n 0, 1) := by decide +kernel
theorem dX12_pieceOfC_64 : decode cX12_pieceOfC 64 = .ok (.iconst 1, 1) := by decide +kernel
theorem dX12_pieceOfC_65 : decode cX12_pieceOfC 65 = .ok (.aload_n 0, 1) := by decide +kernel
theorem dX12_pieceOfC_66 : decode cX12_pieceOfC 66 = .ok (.getfield 164, 3) := by decide +kernel
theorem dX12_pieceOfC_69 : decode cX12_pieceOfC 69 = .ok (.invokevirtual 205, 3) := by decide +kernel
theorem dX12_pieceOfC_72 : decode cX12_pieceOfC 72 = .ok (.return_, 1) := by decide +kernel
theorem dX12_pieceOfC_73 : decode cX12_pieceOfC 73 = .ok (.aload_n 0, 1) := by decide +kernel
theorem dX12_pieceOfC_74 : decode cX12_pieceOfC 74 = .ok (.iload_n 1, 1) := by decide +kernel
theorem dX12_pieceOfC_75 : decode cX12_pieceOfC 75 = .ok (.invokevirtual 251, 3) := by decide +kernel
theorem dX12_pieceOfC_78 : decode cX12_pieceOfC 78 = .ok (.aload_n 0, 1) := by decide +kernel
theorem dX12_pieceOfC_79 : decode cX12_pieceOfC 79 = .ok (.invokevirtual 292, 3) := by decide +kernel
theorem dX12_pieceOfC_82 : decode cX12_pieceOfC 82 = .ok (.aload_n 0, 1) := by decide +kernel
theorem dX12_pieceOfC_83 : decode cX12_pieceOfC 83 = .ok (.invokevirtual 209, 3) := by decide +kernel
theorem dX12_pieceOfC_86 : decode cX12_pieceOfC 86 = .ok (.ifCond .ne 4, 3) := by decide +kernel
theorem dX12_pieceOfC_89 : decode cX12_pieceOfC 89 = .ok (.return_, 1) := by decide +kernel
theorem dX12_pieceOfC_90 : decode cX12_pieceOfC 90 = .ok (.aload_n 0, 1) := by decide +kernel
theorem dX12_pieceOfC_91 : decode cX12_pieceOfC 91 = .ok (.aload_n 0, 1) := by decide +kernel
theorem dX12_pieceOfC_92 : decode cX12_pieceOfC 92 = .ok (.invokevirtual 257, 3) := by decide +kernel
theorem dX12_pieceOfC_95 : decode cX12_pieceOfC 95 = .ok (.iconst 0, 1) := by decide +kernel
theorem dX12_pieceOfC_96 : decode cX12_pieceOfC 96 = .ok (.invokevirtual 266, 3) := by decide +kernel
theorem dX12_pieceOfC_99 : decode cX12_pieceOfC 99 = .ok (.aload_n 0, 1) := by decide +kernel
theorem dX12_pieceOfC_100 : decode cX12_pieceOfC 100 = .ok (.dup, 1) := by decide +kernel
theorem dX12_pieceOfC_101 : decode cX12_pieceOfC 101 = .ok (.getfield 245, 3) := by decide +kernel
theorem dX12_pieceOfC_104 : decode cX12_pieceOfC 104 = .ok (.iconst 1, 1) := by decide +kernel
theorem dX12_pieceOfC_105 : decode cX12_pieceOfC 105 = .ok (.isub, 1) := by decide +kernel
theorem dX12_pieceOfC_106 : decode cX12_pieceOfC 106 = .ok (.putfield 245, 3) := by decide +kernel
theorem dX12_pieceOfC_109 : decode cX12_pieceOfC 109 = .ok (.aload_n 0, 1) := by decide +kernel
theorem dX12_pieceOfC_110 : decode cX12_pieceOfC 110 = .ok (.invokevirtual 298, 3) := by decide +kernel
theorem dX12_pieceOfC_113 : decode cX12_pieceOfC 113 = .ok (.return_, 1) := by decide +kernel
theorem dX12_isLaw_0 : decode cX12_isLaw 0 = .ok (.iload_n 0, 1) := by decide +kernel
theorem dX12_isLaw_1 : decode cX12_isLaw 1 = .ok (.i2l, 1) := by decide +kernel
theorem dX12_isLaw_2 : decode cX12_isLaw 2 = .ok (.lconst 0, 1) := by decide +kernel
theorem dX12_isLaw_3 : decode cX12_isLaw 3 = .ok (.lconst 1, 1) := by decide +kernel
theorem dX12_isLaw_4 : decode cX12_isLaw 4 = .ok (.invokestatic 181, 3) := by decide +kernel
theorem dX12_isLaw_7 : decode cX12_isLaw 7 = .ok (.ireturn, 1) := by decide +kernel
theorem dX12_law_0 : decode cX12_law 0 = .ok (.iload_n 1, 1) := by decide +kernel
theorem dX12_law_1 : decode cX12_law 1 = .ok (.invokestatic 319, 3) := by decide +kernel
theorem dX12_law_4 : decode cX12_law 4 = .ok (.ifCond .eq 23, 3) := by decide +kernel
theorem dX12_law_7 : decode cX12_law 7 = .ok (.iload_n 2, 1) := by decide +kernel
theorem dX12_law_8 : decode cX12_law 8 = .ok (.i2l, 1) := by decide +kernel
theorem dX12_law_9 : decode cX12_law 9 = .ok (.lconst 1, 1) := by decide +kernel
theorem dX12_law_10 : decode cX12_law 10 = .ok (.ldc2_w 322, 3) := by decide +kernel
theorem dX12_law_13 : decode cX12_law 13 = .ok (.invokestatic 181, 3) := by decide +kernel
theorem dX12_law_16 : decode cX12_law 16 = .ok (.ifCond .eq 11, 3) := by decide +kernel
theorem dX12_law_19 : decode cX12_law 19 = .ok (.iload_n 2, 1) := by decide +kernel
theorem dX12_law_20 : decode cX12_law 20 = .ok (.aload_n 0, 1) := by decide +kernel
theorem dX12_law_21 : decode cX12_law 21 = .ok (.getfield 157, 3) := by decide +kernel
theorem dX12_law_24 : decode cX12_law 24 = .ok (.if_icmp .le 5, 3) := by decide +kernel
theorem dX12_law_27 : decode cX12_law 27 = .ok (.iconst (-1), 1) := by decide +kernel
theorem dX12_law_28 : decode cX12_law 28 = .ok (.ireturn, 1) := by decide +kernel
theorem dX12_law_29 : decode cX12_law 29 = .ok (.aload_n 0, 1) := by decide +kernel
theorem dX12_law_30 : decode cX12_law 30 = .ok (.iconst 0, 1) := by decide +kernel
theorem dX12_law_31 : decode cX12_law 31 = .ok (.putfield 157, 3) := by decide +kernel
theorem dX12_law_34 : decode cX12_law 34 = .ok (.aload_n 0, 1) := by decide +kernel
theorem dX12_law_35 : decode cX12_law 35 = .ok (.iconst 0, 1) := by decide +kernel
theorem dX12_law_36 : decode cX12_law 36 = .ok (.putfield 164, 3) := by decide +kernel
theorem dX12_law_39 : decode cX12_law 39 = .ok (.aload_n 0, 1) := by decide +kernel
theorem dX12_law_40 : decode cX12_law 40 = .ok (.iload_n 2, 1) := by decide +kernel
theorem dX12_law_41 : decode cX12_law 41 = .ok (.putfield 167, 3) := by decide +kernel
theorem dX12_law_44 : decode cX12_law 44 = .ok (.aload_n 0, 1) := by decide +kernel
theorem dX12_law_45 : decode cX12_law 45 = .ok (.iconst 0, 1) := by decide +kernel
theorem dX12_law_46 : decode cX12_law 46 = .ok (.putfield 170, 3) := by decide +kernel
theorem dX12_law_49 : decode cX12_law 49 = .ok (.aload_n 0, 1) := by decide +kernel
theorem dX12_law_50 : decode cX12_law 50 = .ok (.iconst 0, 1) := by decide +kernel
theorem dX12_law_51 : decode cX12_law 51 = .ok (.putfield 313, 3) := by decide +kernel
theorem dX12_law_54 : decode cX12_law 54 = .ok (.aload_n 0, 1) := by decide +kernel
theorem dX12_law_55 : decode cX12_law 55 = .ok (.iconst 0, 1) := by decide +kernel
theorem dX12_law_56 : decode cX12_law 56 = .ok (.putfield 242, 3) := by decide +kernel
theorem dX12_law_59 : decode cX12_law 59 = .ok (.iconst 1, 1) := by decide +kernel
theorem dX12_law_60 : decode cX12_law 60 = .ok (.istore_n 3, 1) := by decide +kernel
theorem dX12_law_61 : decode cX12_law 61 = .ok (.iload_n 3, 1) := by decide +kernel
theorem dX12_law_62 : decode cX12_law 62 = .ok (.ifCond .eq 73, 3) := by decide +kernel
theorem dX12_law_65 : decode cX12_law 65 = .ok (.aload_n 0, 1) := by decide +kernel
theorem dX12_law_66 : decode cX12_law 66 = .ok (.invokevirtual 209, 3) := by decide +kernel
theorem dX12_law_69 : decode cX12_law 69 = .ok (.ifCond .eq 66, 3) := by decide +kernel
theorem dX12_law_72 : decode cX12_law 72 = .ok (.aload_n 0, 1) := by decide +kernel
theorem dX12_law_73 : decode cX12_law 73 = .ok (.invokevirtual 324, 3) := by decide +kernel
theorem dX12_law_76 : decode cX12_law 76 = .ok (.aload_n 0, 1) := by decide +kernel
theorem dX12_law_77 : decode cX12_law 77 = .ok (.invokevirtual 209, 3) := by decide +kernel
theorem dX12_law_80 : decode cX12_law 80 = .ok (.ifCond .eq 18, 3) := by decide +kernel
theorem dX12_law_83 : decode cX12_law 83 = .ok (.aload_n 0, 1) := by decide +kernel
theorem dX12_law_84 : decode cX12_law 84 = .ok (.getfield 164, 3) := by decide +kernel
theorem dX12_law_87 : decode cX12_law 87 = .ok (.aload_n 0, 1) := by decide +kernel
theorem dX12_law_88 : decode cX12_law 88 = .ok (.getfield 167, 3) := by decide +kernel
theorem dX12_law_91 : decode cX12_law 91 = .ok (.if_icmp .ge 7, 3) := by decide +kernel
theorem dX12_law_94 : decode cX12_law 94 = .ok (.iconst 1, 1) := by decide +kernel
theorem dX12_law_95 : decode cX12_law 95 = .ok (.goto 4, 3) := by decide +kernel
theorem dX12_law_98 : decode cX12_law 98 = .ok (.iconst 0, 1) := by decide +kernel
theorem dX12_law_99 : decode cX12_law 99 = .ok (.istore_n 3, 1) := by decide +kernel
theorem dX12_law_100 : decode cX12_law 100 = .ok (.iload_n 3, 1) := by decide +kernel
theorem dX12_law_101 : decode cX12_law 101 = .ok (.ifCond .eq (-40), 3) := by decide +kernel
theorem dX12_law_104 : decode cX12_law 104 = .ok (.aload_n 0, 1) := by decide +kernel
theorem dX12_law_105 : decode cX12_law 105 = .ok (.invokevirtual 173, 3) := by decide +kernel
theorem dX12_law_108 : decode cX12_law 108 = .ok (.bipush 59, 2) := by decide +kernel
theorem dX12_law_110 : decode cX12_law 110 = .ok (.if_icmp .eq 12, 3) := by decide +kernel
theorem dX12_law_113 : decode cX12_law 113 = .ok (.aload_n 0, 1) := by decide +kernel
theorem dX12_law_114 : decode cX12_law 114 = .ok (.iconst 1, 1) := by decide +kernel
theorem dX12_law_115 : decode cX12_law 115 = .ok (.aload_n 0, 1) := by decide +kernel
theorem dX12_law_116 : decode cX12_law 116 = .ok (.getfield 164, 3) := by decide +kernel
theorem dX12_law_119 : decode cX12_law 119 = .ok (.invokevirtual 205, 3) := by decide +kernel
theorem dX12_law_122 : decode cX12_law 122 = .ok (.aload_n 0, 1) := by decide +kernel
theorem dX12_law_123 : decode cX12_law 123 = .ok (.dup, 1) := by decide +kernel
theorem dX12_law_124 : decode cX12_law 124 = .ok (.getfield 164, 3) := by decide +kernel
theorem dX12_law_127 : decode cX12_law 127 = .ok (.iconst 1, 1) := by decide +kernel
theorem dX12_law_128 : decode cX12_law 128 = .ok (.iadd, 1) := by decide +kernel
theorem dX12_law_129 : decode cX12_law 129 = .ok (.putfield 164, 3) := by decide +kernel
theorem dX12_law_132 : decode cX12_law 132 = .ok (.goto (-71), 3) := by decide +kernel
theorem dX12_law_135 : decode cX12_law 135 = .ok (.aload_n 0, 1) := by decide +kernel
theorem dX12_law_136 : decode cX12_law 136 = .ok (.getfield 170, 3) := by decide +kernel
theorem dX12_law_139 : decode cX12_law 139 = .ok (.ifCond .ge 8, 3) := by decide +kernel
theorem dX12_law_142 : decode cX12_law 142 = .ok (.aload_n 0, 1) := by decide +kernel
theorem dX12_law_143 : decode cX12_law 143 = .ok (.getfield 170, 3) := by decide +kernel
theorem dX12_law_146 : decode cX12_law 146 = .ok (.ireturn, 1) := by decide +kernel
theorem dX12_law_147 : decode cX12_law 147 = .ok (.iconst 0, 1) := by decide +kernel
theorem dX12_law_148 : decode cX12_law 148 = .ok (.istore 4, 2) := by decide +kernel
theorem dX12_law_150 : decode cX12_law 150 = .ok (.iload 4, 2) := by decide +kernel
theorem dX12_law_152 : decode cX12_law 152 = .ok (.aload_n 0, 1) := by decide +kernel
theorem dX12_law_153 : decode cX12_law 153 = .ok (.getfield 313, 3) := by decide +kernel
theorem dX12_law_156 : decode cX12_law 156 = .ok (.if_icmp .ge 103, 3) := by decide +kernel
theorem dX12_law_159 : decode cX12_law 159 = .ok (.aload_n 0, 1) := by decide +kernel
theorem dX12_law_160 : decode cX12_law 160 = .ok (.getfield 37, 3) := by decide +kernel
theorem dX12_law_163 : decode cX12_law 163 = .ok (.bipush 14, 2) := by decide +kernel
theorem dX12_law_165 : decode cX12_law 165 = .ok (.iload_n 1, 1) := by decide +kernel
theorem dX12_law_166 : decode cX12_law 166 = .ok (.imul, 1) := by decide +kernel
theorem dX12_law_167 : decode cX12_law 167 = .ok (.iload 4, 2) := by decide +kernel
theorem dX12_law_169 : decode cX12_law 169 = .ok (.iadd, 1) := by decide +kernel
theorem dX12_law_170 : decode cX12_law 170 = .ok (.aload_n 0, 1) := by decide +kernel
theorem dX12_law_171 : decode cX12_law 171 = .ok (.getfield 55, 3) := by decide +kernel
theorem dX12_law_174 : decode cX12_law 174 = .ok (.iload 4, 2) := by decide +kernel
theorem dX12_law_176 : decode cX12_law 176 = .ok (.iaload, 1) := by decide +kernel
theorem dX12_law_177 : decode cX12_law 177 = .ok (.iastore, 1) := by decide +kernel
theorem dX12_law_178 : decode cX12_law 178 = .ok (.aload_n 0, 1) := by decide +kernel
theorem dX12_law_179 : decode cX12_law 179 = .ok (.getfield 40, 3) := by decide +kernel
theorem dX12_law_182 : decode cX12_law 182 = .ok (.bipush 14, 2) := by decide +kernel
theorem dX12_law_184 : decode cX12_law 184 = .ok (.iload_n 1, 1) := by decide +kernel
theorem dX12_law_185 : decode cX12_law 185 = .ok (.imul, 1) := by decide +kernel
theorem dX12_law_186 : decode cX12_law 186 = .ok (.iload 4, 2) := by decide +kernel
theorem dX12_law_188 : decode cX12_law 188 = .ok (.iadd, 1) := by decide +kernel
theorem dX12_law_189 : decode cX12_law 189 = .ok (.sipush 200, 3) := by decide +kernel
theorem dX12_law_192 : decode cX12_law 192 = .ok (.iload_n 1, 1) := by decide +kernel
theorem dX12_law_193 : decode cX12_law 193 = .ok (.imul, 1) := by decide +kernel
theorem dX12_law_194 : decode cX12_law 194 = .ok (.aload_n 0, 1) := by decide +kernel
theorem dX12_law_195 : decode cX12_law 195 = .ok (.getfield 58, 3) := by decide +kernel
theorem dX12_law_198 : decode cX12_law 198 = .ok (.iload 4, 2) := by decide +kernel
theorem dX12_law_200 : decode cX12_law 200 = .ok (.iaload, 1) := by decide +kernel
theorem dX12_law_201 : decode cX12_law 201 = .ok (.iadd, 1) := by decide +kernel
theorem dX12_law_202 : decode cX12_law 202 = .ok (.iastore, 1) := by decide +kernel
theorem dX12_law_203 : decode cX12_law 203 = .ok (.aload_n 0, 1) := by decide +kernel
theorem dX12_law_204 : decode cX12_law 204 = .ok (.getfield 43, 3) := by decide +kernel
theorem dX12_law_207 : decode cX12_law 207 = .ok (.bipush 14, 2) := by decide +kernel
theorem dX12_law_209 : decode cX12_law 209 = .ok (.iload_n 1, 1) := by decide +kernel
theorem dX12_law_210 : decode cX12_law 210 = .ok (.imul, 1) := by decide +kernel
theorem dX12_law_211 : decode cX12_law 211 = .ok (.iload 4, 2) := by decide +kernel
theorem dX12_law_213 : decode cX12_law 213 = .ok (.iadd, 1) := by decide +kernel
theorem dX12_law_214 : decode cX12_law 214 = .ok (.sipush 200, 3) := by decide +kernel
theorem dX12_law_217 : decode cX12_law 217 = .ok (.iload_n 1, 1) := by decide +kernel
theorem dX12_law_218 : decode cX12_law 218 = .ok (.imul, 1) := by decide +kernel
theorem dX12_law_219 : decode cX12_law 219 = .ok (.aload_n 0, 1) := by decide +kernel
theorem dX12_law_220 : decode cX12_law 220 = .ok (.getfield 61, 3) := by decide +kernel
theorem dX12_law_223 : decode cX12_law 223 = .ok (.iload 4, 2) := by decide +kernel
theorem dX12_law_225 : decode cX12_law 225 = .ok (.iaload, 1) := by decide +kernel
theorem dX12_law_226 : decode cX12_law 226 = .ok (.iadd, 1) := by decide +kernel
theorem dX12_law_227 : decode cX12_law 227 = .ok (.iastore, 1) := by decide +kernel
theorem dX12_law_228 : decode cX12_law 228 = .ok (.aload_n 0, 1) := by decide +kernel
theorem dX12_law_229 : decode cX12_law 229 = .ok (.getfield 46, 3) := by decide +kernel
theorem dX12_law_232 : decode cX12_law 232 = .ok (.bipush 14, 2) := by decide +kernel
theorem dX12_law_234 : decode cX12_law 234 = .ok (.iload_n 1, 1) := by decide +kernel
theorem dX12_law_235 : decode cX12_law 235 = .ok (.imul, 1) := by decide +kernel
theorem dX12_law_236 : decode cX12_law 236 = .ok (.iload 4, 2) := by decide +kernel
theorem dX12_law_238 : decode cX12_law 238 = .ok (.iadd, 1) := by decide +kernel
theorem dX12_law_239 : decode cX12_law 239 = .ok (.sipush 200, 3) := by decide +kernel
theorem dX12_law_242 : decode cX12_law 242 = .ok (.iload_n 1, 1) := by decide +kernel
theorem dX12_law_243 : decode cX12_law 243 = .ok (.imul, 1) := by decide +kernel
theorem dX12_law_244 : decode cX12_law 244 = .ok (.aload_n 0, 1) := by decide +kernel
theorem dX12_law_245 : decode cX12_law 245 = .ok (.getfield 64, 3) := by decide +kernel
theorem dX12_law_248 : decode cX12_law 248 = .ok (.iload 4, 2) := by decide +kernel
theorem dX12_law_250 : decode cX12_law 250 = .ok (.iaload, 1) := by decide +kernel
theorem dX12_law_251 : decode cX12_law 251 = .ok (.iadd, 1) := by decide +kernel
theorem dX12_law_252 : decode cX12_law 252 = .ok (.iastore, 1) := by decide +kernel
theorem dX12_law_253 : decode cX12_law 253 = .ok (.iinc 4 1, 3) := by decide +kernel
theorem dX12_law_256 : decode cX12_law 256 = .ok (.goto (-106), 3) := by decide +kernel
theorem dX12_law_259 : decode cX12_law 259 = .ok (.iconst 0, 1) := by decide +kernel
theorem dX12_law_260 : decode cX12_law 260 = .ok (.istore 4, 2) := by decide +kernel
theorem dX12_law_262 : decode cX12_law 262 = .ok (.iload 4, 2) := by decide +kernel
theorem dX12_law_264 : decode cX12_law 264 = .ok (.aload_n 0, 1) := by decide +kernel
theorem dX12_law_265 : decode cX12_law 265 = .ok (.getfield 242, 3) := by decide +kernel
theorem dX12_law_268 : decode cX12_law 268 = .ok (.if_icmp .ge 49, 3) := by decide +kernel
theorem dX12_law_271 : decode cX12_law 271 = .ok (.aload_n 0, 1) := by decide +kernel
theorem dX12_law_272 : decode cX12_law 272 = .ok (.getfield 49, 3) := by decide +kernel
theorem dX12_law_275 : decode cX12_law 275 = .ok (.sipush 200, 3) := by decide +kernel
theorem dX12_law_278 : decode cX12_law 278 = .ok (.iload_n 1, 1) := by decide +kernel
theorem dX12_law_279 : decode cX12_law 279 = .ok (.imul, 1) := by decide +kernel
theorem dX12_law_280 : decode cX12_law 280 = .ok (.iload 4, 2) := by decide +kernel
theorem dX12_law_282 : decode cX12_law 282 = .ok (.iadd, 1) := by decide +kernel
theorem dX12_law_283 : decode cX12_law 283 = .ok (.aload_n 0, 1) := by decide +kernel
theorem dX12_law_284 : decode cX12_law 284 = .ok (.getfield 67, 3) := by decide +kernel
theorem dX12_law_287 : decode cX12_law 287 = .ok (.iload 4, 2) := by decide +kernel
theorem dX12_law_289 : decode cX12_law 289 = .ok (.iaload, 1) := by decide +kernel
theorem dX12_law_290 : decode cX12_law 290 = .ok (.iastore, 1) := by decide +kernel
theorem dX12_law_291 : decode cX12_law 291 = .ok (.aload_n 0, 1) := by decide +kernel
theorem dX12_law_292 : decode cX12_law 292 = .ok (.getfield 52, 3) := by decide +kernel
theorem dX12_law_295 : decode cX12_law 295 = .ok (.sipush 200, 3) := by decide +kernel
theorem dX12_law_298 : decode cX12_law 298 = .ok (.iload_n 1, 1) := by decide +kernel
theorem dX12_law_299 : decode cX12_law 299 = .ok (.imul, 1) := by decide +kernel
theorem dX12_law_300 : decode cX12_law 300 = .ok (.iload 4, 2) := by decide +kernel
theorem dX12_law_302 : decode cX12_law 302 = .ok (.iadd, 1) := by decide +kernel
theorem dX12_law_303 : decode cX12_law 303 = .ok (.aload_n 0, 1) := by decide +kernel
theorem dX12_law_304 : decode cX12_law 304 = .ok (.getfield 70, 3) := by decide +kernel
theorem dX12_law_307 : decode cX12_law 307 = .ok (.iload 4, 2) := by decide +kernel
theorem dX12_law_309 : decode cX12_law 309 = .ok (.iaload, 1) := by decide +kernel
theorem dX12_law_310 : decode cX12_law 310 = .ok (.iastore, 1) := by decide +kernel
theorem dX12_law_311 : decode cX12_law 311 = .ok (.iinc 4 1, 3) := by decide +kernel
theorem dX12_law_314 : decode cX12_law 314 = .ok (.goto (-52), 3) := by decide +kernel
theorem dX12_law_317 : decode cX12_law 317 = .ok (.aload_n 0, 1) := by decide +kernel
theorem dX12_law_318 : decode cX12_law 318 = .ok (.getfield 34, 3) := by decide +kernel
theorem dX12_law_321 : decode cX12_law 321 = .ok (.iload_n 1, 1) := by decide +kernel
theorem dX12_law_322 : decode cX12_law 322 = .ok (.aload_n 0, 1) := by decide +kernel
theorem dX12_law_323 : decode cX12_law 323 = .ok (.getfield 313, 3) := by decide +kernel
theorem dX12_law_326 : decode cX12_law 326 = .ok (.iastore, 1) := by decide +kernel
theorem dX12_law_327 : decode cX12_law 327 = .ok (.aload_n 0, 1) := by decide +kernel
theorem dX12_law_328 : decode cX12_law 328 = .ok (.getfield 313, 3) := by decide +kernel
theorem dX12_law_331 : decode cX12_law 331 = .ok (.ireturn, 1) := by decide +kernel
theorem dX12_lets_0 : decode cX12_lets 0 = .ok (.bipush 14, 2) := by decide +kernel
theorem dX12_lets_2 : decode cX12_lets 2 = .ok (.iload_n 1, 1) := by decide +kernel
theorem dX12_lets_3 : decode cX12_lets 3 = .ok (.imul, 1) := by decide +kernel
theorem dX12_lets_4 : decode cX12_lets 4 = .ok (.istore_n 2, 1) := by decide +kernel
theorem dX12_lets_5 : decode cX12_lets 5 = .ok (.iload_n 2, 1) := by decide +kernel
theorem dX12_lets_6 : decode cX12_lets 6 = .ok (.bipush 14, 2) := by decide +kernel
theorem dX12_lets_8 : decode cX12_lets 8 = .ok (.iload_n 1, 1) := by decide +kernel
theorem dX12_lets_9 : decode cX12_lets 9 = .ok (.imul, 1) := by decide +kernel
theorem dX12_lets_10 : decode cX12_lets 10 = .ok (.aload_n 0, 1) := by decide +kernel
theorem dX12_lets_11 : decode cX12_lets 11 = .ok (.getfield 34, 3) := by decide +kernel
theorem dX12_lets_14 : decode cX12_lets 14 = .ok (.iload_n 1, 1) := by decide +kernel
theorem dX12_lets_15 : decode cX12_lets 15 = .ok (.iaload, 1) := by decide +kernel
theorem dX12_lets_16 : decode cX12_lets 16 = .ok (.iadd, 1) := by decide +kernel
theorem dX12_lets_17 : decode cX12_lets 17 = .ok (.if_icmp .ge 30, 3) := by decide +kernel
theorem dX12_lets_20 : decode cX12_lets 20 = .ok (.aload_n 0, 1) := by decide +kernel
theorem dX12_lets_21 : decode cX12_lets 21 = .ok (.getfield 37, 3) := by decide +kernel
theorem dX12_lets_24 : decode cX12_lets 24 = .ok (.iload_n 2, 1) := by decide +kernel
theorem dX12_lets_25 : decode cX12_lets 25 = .ok (.iaload, 1) := by decide +kernel
theorem dX12_lets_26 : decode cX12_lets 26 = .ok (.bipush 110, 2) := by decide +kernel
theorem dX12_lets_28 : decode cX12_lets 28 = .ok (.if_icmp .ne 13, 3) := by decide +kernel
theorem dX12_lets_31 : decode cX12_lets 31 = .ok (.aload_n 0, 1) := by decide +kernel
theorem dX12_lets_32 : decode cX12_lets 32 = .ok (.iload_n 2, 1) := by decide +kernel
theorem dX12_lets_33 : decode cX12_lets 33 = .ok (.invokevirtual 361, 3) := by decide +kernel
theorem dX12_lets_36 : decode cX12_lets 36 = .ok (.ifCond .eq 5, 3) := by decide +kernel
theorem dX12_lets_39 : decode cX12_lets 39 = .ok (.iconst 0, 1) := by decide +kernel
theorem dX12_lets_40 : decode cX12_lets 40 = .ok (.ireturn, 1) := by decide +kernel
theorem dX12_lets_41 : decode cX12_lets 41 = .ok (.iinc 2 1, 3) := by decide +kernel
theorem dX12_lets_44 : decode cX12_lets 44 = .ok (.goto (-39), 3) := by decide +kernel
theorem dX12_lets_47 : decode cX12_lets 47 = .ok (.iconst 1, 1) := by decide +kernel
theorem dX12_lets_48 : decode cX12_lets 48 = .ok (.ireturn, 1) := by decide +kernel
theorem dX12_pays_0 : decode cX12_pays 0 = .ok (.iconst 0, 1) := by decide +kernel
theorem dX12_pays_1 : decode cX12_pays 1 = .ok (.istore_n 1, 1) := by decide +kernel
theorem dX12_pays_2 : decode cX12_pays 2 = .ok (.iload_n 1, 1) := by decide +kernel
theorem dX12_pays_3 : decode cX12_pays 3 = .ok (.aload_n 0, 1) := by decide +kernel
theorem dX12_pays_4 : decode cX12_pays 4 = .ok (.getfield 34, 3) := by decide +kernel
theorem dX12_pays_7 : decode cX12_pays 7 = .ok (.iconst 0, 1) := by decide +kernel
theorem dX12_pays_8 : decode cX12_pays 8 = .ok (.iaload, 1) := by decide +kernel
theorem dX12_pays_9 : decode cX12_pays 9 = .ok (.if_icmp .ge 90, 3) := by decide +kernel
theorem dX12_pays_12 : decode cX12_pays 12 = .ok (.aload_n 0, 1) := by decide +kernel
theorem dX12_pays_13 : decode cX12_pays 13 = .ok (.getfield 37, 3) := by decide +kernel
theorem dX12_pays_16 : decode cX12_pays 16 = .ok (.iload_n 1, 1) := by decide +kernel
theorem dX12_pays_17 : decode cX12_pays 17 = .ok (.iaload, 1) := by decide +kernel
theorem dX12_pays_18 : decode cX12_pays 18 = .ok (.bipush 112, 2) := by decide +kernel
theorem dX12_pays_20 : decode cX12_pays 20 = .ok (.if_icmp .ne 73, 3) := by decide +kernel
theorem dX12_pays_23 : decode cX12_pays 23 = .ok (.aload_n 0, 1) := by decide +kernel
theorem dX12_pays_24 : decode cX12_pays 24 = .ok (.iload_n 1, 1) := by decide +kernel
theorem dX12_pays_25 : decode cX12_pays 25 = .ok (.invokevirtual 361, 3) := by decide +kernel
theorem dX12_pays_28 : decode cX12_pays 28 = .ok (.ifCond .ne 6, 3) := by decide +kernel
theorem dX12_pays_31 : decode cX12_pays 31 = .ok (.goto 62, 3) := by decide +kernel
theorem dX12_pays_34 : decode cX12_pays 34 = .ok (.aload_n 0, 1) := by decide +kernel
theorem dX12_pays_35 : decode cX12_pays 35 = .ok (.aload_n 0, 1) := by decide +kernel
theorem dX12_pays_36 : decode cX12_pays 36 = .ok (.getfield 40, 3) := by decide +kernel
theorem dX12_pays_39 : decode cX12_pays 39 = .ok (.iload_n 1, 1) := by decide +kernel
theorem dX12_pays_40 : decode cX12_pays 40 = .ok (.iaload, 1) := by decide +kernel
theorem dX12_pays_41 : decode cX12_pays 41 = .ok (.aload_n 0, 1) := by decide +kernel
theorem dX12_pays_42 : decode cX12_pays 42 = .ok (.getfield 43, 3) := by decide +kernel
theorem dX12_pays_45 : decode cX12_pays 45 = .ok (.iload_n 1, 1) := by decide +kernel
theorem dX12_pays_46 : decode cX12_pays 46 = .ok (.iaload, 1) := by decide +kernel
theorem dX12_pays_47 : decode cX12_pays 47 = .ok (.invokevirtual 358, 3) := by decide +kernel
theorem dX12_pays_50 : decode cX12_pays 50 = .ok (.aload_n 0, 1) := by decide +kernel
theorem dX12_pays_51 : decode cX12_pays 51 = .ok (.getfield 82, 3) := by decide +kernel
theorem dX12_pays_54 : decode cX12_pays 54 = .ok (.iconst 0, 1) := by decide +kernel
theorem dX12_pays_55 : decode cX12_pays 55 = .ok (.baload, 1) := by decide +kernel
theorem dX12_pays_56 : decode cX12_pays 56 = .ok (.ifCond .eq 7, 3) := by decide +kernel
theorem dX12_pays_59 : decode cX12_pays 59 = .ok (.iconst 0, 1) := by decide +kernel
theorem dX12_pays_60 : decode cX12_pays 60 = .ok (.goto 9, 3) := by decide +kernel
theorem dX12_pays_63 : decode cX12_pays 63 = .ok (.aload_n 0, 1) := by decide +kernel
theorem dX12_pays_64 : decode cX12_pays 64 = .ok (.getfield 79, 3) := by decide +kernel
theorem dX12_pays_67 : decode cX12_pays 67 = .ok (.iconst 0, 1) := by decide +kernel
theorem dX12_pays_68 : decode cX12_pays 68 = .ok (.iaload, 1) := by decide +kernel
theorem dX12_pays_69 : decode cX12_pays 69 = .ok (.istore_n 2, 1) := by decide +kernel
theorem dX12_pays_70 : decode cX12_pays 70 = .ok (.iload_n 2, 1) := by decide +kernel
theorem dX12_pays_71 : decode cX12_pays 71 = .ok (.ifCond .ge 7, 3) := by decide +kernel
theorem dX12_pays_74 : decode cX12_pays 74 = .ok (.iconst 0, 1) := by decide +kernel
theorem dX12_pays_75 : decode cX12_pays 75 = .ok (.goto 17, 3) := by decide +kernel
theorem dX12_pays_78 : decode cX12_pays 78 = .ok (.iload_n 2, 1) := by decide +kernel
theorem dX12_pays_79 : decode cX12_pays 79 = .ok (.sipush 999, 3) := by decide +kernel
theorem dX12_pays_82 : decode cX12_pays 82 = .ok (.if_icmp .le 9, 3) := by decide +kernel
theorem dX12_pays_85 : decode cX12_pays 85 = .ok (.sipush 999, 3) := by decide +kernel
theorem dX12_pays_88 : decode cX12_pays 88 = .ok (.goto 4, 3) := by decide +kernel
theorem dX12_pays_91 : decode cX12_pays 91 = .ok (.iload_n 2, 1) := by decide +kernel
theorem dX12_pays_92 : decode cX12_pays 92 = .ok (.ireturn, 1) := by decide +kernel
theorem dX12_pays_93 : decode cX12_pays 93 = .ok (.iinc 1 1, 3) := by decide +kernel
theorem dX12_pays_96 : decode cX12_pays 96 = .ok (.goto (-94), 3) := by decide +kernel
theorem dX12_pays_99 : decode cX12_pays 99 = .ok (.iconst 0, 1) := by decide +kernel
theorem dX12_pays_100 : decode cX12_pays 100 = .ok (.ireturn, 1) := by decide +kernel
theorem dX12_isSpeaker_0 : decode cX12_isSpeaker 0 = .ok (.iload_n 0, 1) := by decide +kernel
theorem dX12_isSpeaker_1 : decode cX12_isSpeaker 1 = .ok (.i2l, 1) := by decide +kernel
theorem dX12_isSpeaker_2 : decode cX12_isSpeaker 2 = .ok (.lconst 0, 1) := by decide +kernel
theorem dX12_isSpeaker_3 : decode cX12_isSpeaker 3 = .ok (.ldc2_w 364, 3) := by decide +kernel
theorem dX12_isSpeaker_6 : decode cX12_isSpeaker 6 = .ok (.invokestatic 181, 3) := by decide +kernel
theorem dX12_isSpeaker_9 : decode cX12_isSpeaker 9 = .ok (.ireturn, 1) := by decide +kernel
theorem dX12_lengthAt_0 : decode cX12_lengthAt 0 = .ok (.iload_n 1, 1) := by decide +kernel
theorem dX12_lengthAt_1 : decode cX12_lengthAt 1 = .ok (.ifCond .ge 7, 3) := by decide +kernel
theorem dX12_lengthAt_4 : decode cX12_lengthAt 4 = .ok (.iconst 0, 1) := by decide +kernel
theorem dX12_lengthAt_5 : decode cX12_lengthAt 5 = .ok (.goto 9, 3) := by decide +kernel
theorem dX12_lengthAt_8 : decode cX12_lengthAt 8 = .ok (.aload_n 0, 1) := by decide +kernel
theorem dX12_lengthAt_9 : decode cX12_lengthAt 9 = .ok (.getfield 91, 3) := by decide +kernel
theorem dX12_lengthAt_12 : decode cX12_lengthAt 12 = .ok (.iload_n 1, 1) := by decide +kernel
theorem dX12_lengthAt_13 : decode cX12_lengthAt 13 = .ok (.iaload, 1) := by decide +kernel
theorem dX12_lengthAt_14 : decode cX12_lengthAt 14 = .ok (.ireturn, 1) := by decide +kernel
theorem dX12_isSize_0 : decode cX12_isSize 0 = .ok (.iload_n 0, 1) := by decide +kernel
theorem dX12_isSize_1 : decode cX12_isSize 1 = .ok (.i2l, 1) := by decide +kernel
theorem dX12_isSize_2 : decode cX12_isSize 2 = .ok (.lconst 1, 1) := by decide +kernel
theorem dX12_isSize_3 : decode cX12_isSize 3 = .ok (.ldc2_w 369, 3) := by decide +kernel
theorem dX12_isSize_6 : decode cX12_isSize 6 = .ok (.invokestatic 181, 3) := by decide +kernel
theorem dX12_isSize_9 : decode cX12_isSize 9 = .ok (.ireturn, 1) := by decide +kernel
theorem dX12_may_0 : decode cX12_may 0 = .ok (.iload_n 1, 1) := by decide +kernel
theorem dX12_may_1 : decode cX12_may 1 = .ok (.invokestatic 319, 3) := by decide +kernel
theorem dX12_may_4 : decode cX12_may 4 = .ok (.ifCond .eq 17, 3) := by decide +kernel
theorem dX12_may_7 : decode cX12_may 7 = .ok (.iload_n 2, 1) := by decide +kernel
theorem dX12_may_8 : decode cX12_may 8 = .ok (.invokestatic 378, 3) := by decide +kernel
theorem dX12_may_11 : decode cX12_may 11 = .ok (.ifCond .eq 10, 3) := by decide +kernel
theorem dX12_may_14 : decode cX12_may 14 = .ok (.iload_n 3, 1) := by decide +kernel
theorem dX12_may_15 : decode cX12_may 15 = .ok (.invokestatic 229, 3) := by decide +kernel
theorem dX12_may_18 : decode cX12_may 18 = .ok (.ifCond .ne 5, 3) := by decide +kernel
theorem dX12_may_21 : decode cX12_may 21 = .ok (.iconst (-1), 1) := by decide +kernel
theorem dX12_may_22 : decode cX12_may 22 = .ok (.ireturn, 1) := by decide +kernel
theorem dX12_may_23 : decode cX12_may 23 = .ok (.iload 4, 2) := by decide +kernel
theorem dX12_may_25 : decode cX12_may 25 = .ok (.invokestatic 383, 3) := by decide +kernel
theorem dX12_may_28 : decode cX12_may 28 = .ok (.ifCond .eq 17, 3) := by decide +kernel
theorem dX12_may_31 : decode cX12_may 31 = .ok (.aload_n 0, 1) := by decide +kernel
theorem dX12_may_32 : decode cX12_may 32 = .ok (.getfield 17, 3) := by decide +kernel
theorem dX12_may_35 : decode cX12_may 35 = .ok (.iload_n 3, 1) := by decide +kernel
theorem dX12_may_36 : decode cX12_may 36 = .ok (.iaload, 1) := by decide +kernel
theorem dX12_may_37 : decode cX12_may 37 = .ok (.iload 4, 2) := by decide +kernel
theorem dX12_may_39 : decode cX12_may 39 = .ok (.invokestatic 187, 3) := by decide +kernel
theorem dX12_may_42 : decode cX12_may 42 = .ok (.ifCond .ne 6, 3) := by decide +kernel
theorem dX12_may_45 : decode cX12_may 45 = .ok (.bipush (-2), 2) := by decide +kernel
theorem dX12_may_47 : decode cX12_may 47 = .ok (.ireturn, 1) := by decide +kernel
theorem dX12_may_48 : decode cX12_may 48 = .ok (.aload_n 0, 1) := by decide +kernel
theorem dX12_may_49 : decode cX12_may 49 = .ok (.aload_n 0, 1) := by decide +kernel
theorem dX12_may_50 : decode cX12_may 50 = .ok (.getfield 386, 3) := by decide +kernel
theorem dX12_may_53 : decode cX12_may 53 = .ok (.invokevirtual 389, 3) := by decide +kernel
theorem dX12_may_56 : decode cX12_may 56 = .ok (.aload_n 0, 1) := by decide +kernel
theorem dX12_may_57 : decode cX12_may 57 = .ok (.iload_n 2, 1) := by decide +kernel
theorem dX12_may_58 : decode cX12_may 58 = .ok (.iload_n 3, 1) := by decide +kernel
theorem dX12_may_59 : decode cX12_may 59 = .ok (.iload 4, 2) := by decide +kernel
theorem dX12_may_61 : decode cX12_may 61 = .ok (.invokevirtual 371, 3) := by decide +kernel
theorem dX12_may_64 : decode cX12_may 64 = .ok (.aload_n 0, 1) := by decide +kernel
theorem dX12_may_65 : decode cX12_may 65 = .ok (.iload_n 1, 1) := by decide +kernel
theorem dX12_may_66 : decode cX12_may 66 = .ok (.invokevirtual 375, 3) := by decide +kernel
theorem dX12_may_69 : decode cX12_may 69 = .ok (.ifCond .eq 7, 3) := by decide +kernel
theorem dX12_may_72 : decode cX12_may 72 = .ok (.iconst 1, 1) := by decide +kernel
theorem dX12_may_73 : decode cX12_may 73 = .ok (.goto 4, 3) := by decide +kernel
theorem dX12_may_76 : decode cX12_may 76 = .ok (.iconst 0, 1) := by decide +kernel
theorem dX12_may_77 : decode cX12_may 77 = .ok (.ireturn, 1) := by decide +kernel
theorem dX12_isSaid_0 : decode cX12_isSaid 0 = .ok (.aload_n 0, 1) := by decide +kernel
theorem dX12_isSaid_1 : decode cX12_isSaid 1 = .ok (.getfield 85, 3) := by decide +kernel
theorem dX12_isSaid_4 : decode cX12_isSaid 4 = .ok (.aload_n 0, 1) := by decide +kernel
theorem dX12_isSaid_5 : decode cX12_isSaid 5 = .ok (.getfield 386, 3) := by decide +kernel
theorem dX12_isSaid_8 : decode cX12_isSaid 8 = .ok (.iload_n 1, 1) := by decide +kernel
theorem dX12_isSaid_9 : decode cX12_isSaid 9 = .ok (.iastore, 1) := by decide +kernel
theorem dX12_isSaid_10 : decode cX12_isSaid 10 = .ok (.aload_n 0, 1) := by decide +kernel
theorem dX12_isSaid_11 : decode cX12_isSaid 11 = .ok (.getfield 88, 3) := by decide +kernel
theorem dX12_isSaid_14 : decode cX12_isSaid 14 = .ok (.aload_n 0, 1) := by decide +kernel
theorem dX12_isSaid_15 : decode cX12_isSaid 15 = .ok (.getfield 386, 3) := by decide +kernel
theorem dX12_isSaid_18 : decode cX12_isSaid 18 = .ok (.iload_n 2, 1) := by decide +kernel
theorem dX12_isSaid_19 : decode cX12_isSaid 19 = .ok (.iastore, 1) := by decide +kernel
theorem dX12_isSaid_20 : decode cX12_isSaid 20 = .ok (.aload_n 0, 1) := by decide +kernel
theorem dX12_isSaid_21 : decode cX12_isSaid 21 = .ok (.getfield 91, 3) := by decide +kernel
theorem dX12_isSaid_24 : decode cX12_isSaid 24 = .ok (.aload_n 0, 1) := by decide +kernel
theorem dX12_isSaid_25 : decode cX12_isSaid 25 = .ok (.getfield 386, 3) := by decide +kernel
theorem dX12_isSaid_28 : decode cX12_isSaid 28 = .ok (.iload_n 3, 1) := by decide +kernel
theorem dX12_isSaid_29 : decode cX12_isSaid 29 = .ok (.iastore, 1) := by decide +kernel
theorem dX12_isSaid_30 : decode cX12_isSaid 30 = .ok (.aload_n 0, 1) := by decide +kernel
theorem dX12_isSaid_31 : decode cX12_isSaid 31 = .ok (.dup, 1) := by decide +kernel
theorem dX12_isSaid_32 : decode cX12_isSaid 32 = .ok (.getfield 386, 3) := by decide +kernel
theorem dX12_isSaid_35 : decode cX12_isSaid 35 = .ok (.iconst 1, 1) := by decide +kernel
theorem dX12_isSaid_36 : decode cX12_isSaid 36 = .ok (.iadd, 1) := by decide +kernel
theorem dX12_isSaid_37 : decode cX12_isSaid 37 = .ok (.putfield 386, 3) := by decide +kernel
theorem dX12_isSaid_40 : decode cX12_isSaid 40 = .ok (.return_, 1) := by decide +kernel
theorem dX12_paidFor_0 : decode cX12_paidFor 0 = .ok (.aload_n 0, 1) := by decide +kernel
theorem dX12_paidFor_1 : decode cX12_paidFor 1 = .ok (.iload_n 1, 1) := by decide +kernel
theorem dX12_paidFor_2 : decode cX12_paidFor 2 = .ok (.invokevirtual 389, 3) := by decide +kernel
theorem dX12_paidFor_5 : decode cX12_paidFor 5 = .ok (.aload_n 0, 1) := by decide +kernel
theorem dX12_paidFor_6 : decode cX12_paidFor 6 = .ok (.aload_n 0, 1) := by decide +kernel
theorem dX12_paidFor_7 : decode cX12_paidFor 7 = .ok (.getfield 85, 3) := by decide +kernel
theorem dX12_paidFor_10 : decode cX12_paidFor 10 = .ok (.iload_n 1, 1) := by decide +kernel
theorem dX12_paidFor_11 : decode cX12_paidFor 11 = .ok (.iaload, 1) := by decide +kernel
theorem dX12_paidFor_12 : decode cX12_paidFor 12 = .ok (.aload_n 0, 1) := by decide +kernel
theorem dX12_paidFor_13 : decode cX12_paidFor 13 = .ok (.getfield 88, 3) := by decide +kernel
theorem dX12_paidFor_16 : decode cX12_paidFor 16 = .ok (.iload_n 1, 1) := by decide +kernel
theorem dX12_paidFor_17 : decode cX12_paidFor 17 = .ok (.iaload, 1) := by decide +kernel
theorem dX12_paidFor_18 : decode cX12_paidFor 18 = .ok (.aload_n 0, 1) := by decide +kernel
theorem dX12_paidFor_19 : decode cX12_paidFor 19 = .ok (.getfield 91, 3) := by decide +kernel
theorem dX12_paidFor_22 : decode cX12_paidFor 22 = .ok (.iload_n 1, 1) := by decide +kernel
theorem dX12_paidFor_23 : decode cX12_paidFor 23 = .ok (.iaload, 1) := by decide +kernel
theorem dX12_paidFor_24 : decode cX12_paidFor 24 = .ok (.invokevirtual 371, 3) := by decide +kernel
theorem dX12_paidFor_27 : decode cX12_paidFor 27 = .ok (.aload_n 0, 1) := by decide +kernel
theorem dX12_paidFor_28 : decode cX12_paidFor 28 = .ok (.invokevirtual 398, 3) := by decide +kernel
theorem dX12_paidFor_31 : decode cX12_paidFor 31 = .ok (.ireturn, 1) := by decide +kernel
theorem dX12_paid_0 : decode cX12_paid 0 = .ok (.iload_n 1, 1) := by decide +kernel
theorem dX12_paid_1 : decode cX12_paid 1 = .ok (.invokestatic 378, 3) := by decide +kernel
theorem dX12_paid_4 : decode cX12_paid 4 = .ok (.ifCond .ne 5, 3) := by decide +kernel
theorem dX12_paid_7 : decode cX12_paid 7 = .ok (.iconst (-1), 1) := by decide +kernel
theorem dX12_paid_8 : decode cX12_paid 8 = .ok (.ireturn, 1) := by decide +kernel
theorem dX12_paid_9 : decode cX12_paid 9 = .ok (.iconst 0, 1) := by decide +kernel
theorem dX12_paid_10 : decode cX12_paid 10 = .ok (.istore_n 2, 1) := by decide +kernel
theorem dX12_paid_11 : decode cX12_paid 11 = .ok (.iconst 0, 1) := by decide +kernel
theorem dX12_paid_12 : decode cX12_paid 12 = .ok (.istore_n 3, 1) := by decide +kernel
theorem dX12_paid_13 : decode cX12_paid 13 = .ok (.iload_n 3, 1) := by decide +kernel
theorem dX12_paid_14 : decode cX12_paid 14 = .ok (.aload_n 0, 1) := by decide +kernel
theorem dX12_paid_15 : decode cX12_paid 15 = .ok (.getfield 386, 3) := by decide +kernel
theorem dX12_paid_18 : decode cX12_paid 18 = .ok (.if_icmp .ge 31, 3) := by decide +kernel
theorem dX12_paid_21 : decode cX12_paid 21 = .ok (.iload_n 2, 1) := by decide +kernel
theorem dX12_paid_22 : decode cX12_paid 22 = .ok (.aload_n 0, 1) := by decide +kernel
theorem dX12_paid_23 : decode cX12_paid 23 = .ok (.getfield 85, 3) := by decide +kernel
theorem dX12_paid_26 : decode cX12_paid 26 = .ok (.iload_n 3, 1) := by decide +kernel
theorem dX12_paid_27 : decode cX12_paid 27 = .ok (.iaload, 1) := by decide +kernel
theorem dX12_paid_28 : decode cX12_paid 28 = .ok (.iload_n 1, 1) := by decide +kernel
theorem dX12_paid_29 : decode cX12_paid 29 = .ok (.if_icmp .ne 11, 3) := by decide +kernel
theorem dX12_paid_32 : decode cX12_paid 32 = .ok (.aload_n 0, 1) := by decide +kernel
theorem dX12_paid_33 : decode cX12_paid 33 = .ok (.iload_n 3, 1) := by decide +kernel
theorem dX12_paid_34 : decode cX12_paid 34 = .ok (.invokevirtual 401, 3) := by decide +kernel
theorem dX12_paid_37 : decode cX12_paid 37 = .ok (.goto 4, 3) := by decide +kernel
theorem dX12_paid_40 : decode cX12_paid 40 = .ok (.iconst 0, 1) := by decide +kernel
theorem dX12_paid_41 : decode cX12_paid 41 = .ok (.iadd, 1) := by decide +kernel
theorem dX12_paid_42 : decode cX12_paid 42 = .ok (.istore_n 2, 1) := by decide +kernel
theorem dX12_paid_43 : decode cX12_paid 43 = .ok (.iinc 3 1, 3) := by decide +kernel
theorem dX12_paid_46 : decode cX12_paid 46 = .ok (.goto (-33), 3) := by decide +kernel
theorem dX12_paid_49 : decode cX12_paid 49 = .ok (.iload_n 2, 1) := by decide +kernel
theorem dX12_paid_50 : decode cX12_paid 50 = .ok (.ireturn, 1) := by decide +kernel
theorem dX12_judged_0 : decode cX12_judged 0 = .ok (.iload_n 1, 1) := by decide +kernel
theorem dX12_judged_1 : decode cX12_judged 1 = .ok (.invokestatic 319, 3) := by decide +kernel
theorem dX12_judged_4 : decode cX12_judged 4 = .ok (.ifCond .eq 25, 3) := by decide +kernel
theorem dX12_judged_7 : decode cX12_judged 7 = .ok (.iload_n 2, 1) := by decide +kernel
theorem dX12_judged_8 : decode cX12_judged 8 = .ok (.i2l, 1) := by decide +kernel
theorem dX12_judged_9 : decode cX12_judged 9 = .ok (.lconst 1, 1) := by decide +kernel
theorem dX12_judged_10 : decode cX12_judged 10 = .ok (.ldc2_w 233, 3) := by decide +kernel
theorem dX12_judged_13 : decode cX12_judged 13 = .ok (.invokestatic 181, 3) := by decide +kernel
theorem dX12_judged_16 : decode cX12_judged 16 = .ok (.ifCond .eq 13, 3) := by decide +kernel
theorem dX12_judged_19 : decode cX12_judged 19 = .ok (.iconst 3, 1) := by decide +kernel
theorem dX12_judged_20 : decode cX12_judged 20 = .ok (.iload_n 2, 1) := by decide +kernel
theorem dX12_judged_21 : decode cX12_judged 21 = .ok (.imul, 1) := by decide +kernel
theorem dX12_judged_22 : decode cX12_judged 22 = .ok (.aload_n 0, 1) := by decide +kernel
theorem dX12_judged_23 : decode cX12_judged 23 = .ok (.getfield 157, 3) := by decide +kernel
theorem dX12_judged_26 : decode cX12_judged 26 = .ok (.if_icmp .le 5, 3) := by decide +kernel
theorem dX12_judged_29 : decode cX12_judged 29 = .ok (.iconst (-1), 1) := by decide +kernel
theorem dX12_judged_30 : decode cX12_judged 30 = .ok (.ireturn, 1) := by decide +kernel
theorem dX12_judged_31 : decode cX12_judged 31 = .ok (.aload_n 0, 1) := by decide +kernel
theorem dX12_judged_32 : decode cX12_judged 32 = .ok (.iconst 0, 1) := by decide +kernel
theorem dX12_judged_33 : decode cX12_judged 33 = .ok (.putfield 157, 3) := by decide +kernel
theorem dX12_judged_36 : decode cX12_judged 36 = .ok (.iconst 0, 1) := by decide +kernel
theorem dX12_judged_37 : decode cX12_judged 37 = .ok (.istore_n 3, 1) := by decide +kernel
theorem dX12_judged_38 : decode cX12_judged 38 = .ok (.iload_n 3, 1) := by decide +kernel
theorem dX12_judged_39 : decode cX12_judged 39 = .ok (.iload_n 2, 1) := by decide +kernel
theorem dX12_judged_40 : decode cX12_judged 40 = .ok (.if_icmp .ge 40, 3) := by decide +kernel
theorem dX12_judged_43 : decode cX12_judged 43 = .ok (.aload_n 0, 1) := by decide +kernel
theorem dX12_judged_44 : decode cX12_judged 44 = .ok (.iconst 3, 1) := by decide +kernel
theorem dX12_judged_45 : decode cX12_judged 45 = .ok (.iload_n 3, 1) := by decide +kernel
theorem dX12_judged_46 : decode cX12_judged 46 = .ok (.imul, 1) := by decide +kernel
theorem dX12_judged_47 : decode cX12_judged 47 = .ok (.invokevirtual 404, 3) := by decide +kernel
theorem dX12_judged_50 : decode cX12_judged 50 = .ok (.invokestatic 378, 3) := by decide +kernel
theorem dX12_judged_53 : decode cX12_judged 53 = .ok (.ifCond .eq 18, 3) := by decide +kernel
theorem dX12_judged_56 : decode cX12_judged 56 = .ok (.aload_n 0, 1) := by decide +kernel
theorem dX12_judged_57 : decode cX12_judged 57 = .ok (.iconst 3, 1) := by decide +kernel
theorem dX12_judged_58 : decode cX12_judged 58 = .ok (.iload_n 3, 1) := by decide +kernel
theorem dX12_judged_59 : decode cX12_judged 59 = .ok (.imul, 1) := by decide +kernel
theorem dX12_judged_60 : decode cX12_judged 60 = .ok (.iconst 1, 1) := by decide +kernel
theorem dX12_judged_61 : decode cX12_judged 61 = .ok (.iadd, 1) := by decide +kernel
theorem dX12_judged_62 : decode cX12_judged 62 = .ok (.invokevirtual 404, 3) := by decide +kernel
theorem dX12_judged_65 : decode cX12_judged 65 = .ok (.invokestatic 229, 3) := by decide +kernel
theorem dX12_judged_68 : decode cX12_judged 68 = .ok (.ifCond .ne 6, 3) := by decide +kernel
theorem dX12_judged_71 : decode cX12_judged 71 = .ok (.bipush (-2), 2) := by decide +kernel
theorem dX12_judged_73 : decode cX12_judged 73 = .ok (.ireturn, 1) := by decide +kernel
theorem dX12_judged_74 : decode cX12_judged 74 = .ok (.iinc 3 1, 3) := by decide +kernel
theorem dX12_judged_77 : decode cX12_judged 77 = .ok (.goto (-39), 3) := by decide +kernel
theorem dX12_judged_80 : decode cX12_judged 80 = .ok (.aload_n 0, 1) := by decide +kernel
theorem dX12_judged_81 : decode cX12_judged 81 = .ok (.aload_n 0, 1) := by decide +kernel
theorem dX12_judged_82 : decode cX12_judged 82 = .ok (.getfield 386, 3) := by decide +kernel
theorem dX12_judged_85 : decode cX12_judged 85 = .ok (.invokevirtual 389, 3) := by decide +kernel
theorem dX12_judged_88 : decode cX12_judged 88 = .ok (.iconst 0, 1) := by decide +kernel
theorem dX12_judged_89 : decode cX12_judged 89 = .ok (.istore_n 3, 1) := by decide +kernel
theorem dX12_judged_90 : decode cX12_judged 90 = .ok (.iload_n 3, 1) := by decide +kernel
theorem dX12_judged_91 : decode cX12_judged 91 = .ok (.iload_n 2, 1) := by decide +kernel
theorem dX12_judged_92 : decode cX12_judged 92 = .ok (.if_icmp .ge 97, 3) := by decide +kernel
theorem dX12_judged_95 : decode cX12_judged 95 = .ok (.aload_n 0, 1) := by decide +kernel
theorem dX12_judged_96 : decode cX12_judged 96 = .ok (.iconst 3, 1) := by decide +kernel
theorem dX12_judged_97 : decode cX12_judged 97 = .ok (.iload_n 3, 1) := by decide +kernel
theorem dX12_judged_98 : decode cX12_judged 98 = .ok (.imul, 1) := by decide +kernel
theorem dX12_judged_99 : decode cX12_judged 99 = .ok (.iconst 2, 1) := by decide +kernel
theorem dX12_judged_100 : decode cX12_judged 100 = .ok (.iadd, 1) := by decide +kernel
theorem dX12_judged_101 : decode cX12_judged 101 = .ok (.invokevirtual 404, 3) := by decide +kernel
theorem dX12_judged_104 : decode cX12_judged 104 = .ok (.istore 4, 2) := by decide +kernel
theorem dX12_judged_106 : decode cX12_judged 106 = .ok (.iload 4, 2) := by decide +kernel
theorem dX12_judged_108 : decode cX12_judged 108 = .ok (.invokestatic 383, 3) := by decide +kernel
theorem dX12_judged_111 : decode cX12_judged 111 = .ok (.ifCond .eq 25, 3) := by decide +kernel
theorem dX12_judged_114 : decode cX12_judged 114 = .ok (.aload_n 0, 1) := by decide +kernel
theorem dX12_judged_115 : decode cX12_judged 115 = .ok (.getfield 17, 3) := by decide +kernel
theorem dX12_judged_118 : decode cX12_judged 118 = .ok (.aload_n 0, 1) := by decide +kernel
theorem dX12_judged_119 : decode cX12_judged 119 = .ok (.iconst 3, 1) := by decide +kernel
theorem dX12_judged_120 : decode cX12_judged 120 = .ok (.iload_n 3, 1) := by decide +kernel
theorem dX12_judged_121 : decode cX12_judged 121 = .ok (.imul, 1) := by decide +kernel
theorem dX12_judged_122 : decode cX12_judged 122 = .ok (.iconst 1, 1) := by decide +kernel
theorem dX12_judged_123 : decode cX12_judged 123 = .ok (.iadd, 1) := by decide +kernel
theorem dX12_judged_124 : decode cX12_judged 124 = .ok (.invokevirtual 404, 3) := by decide +kernel
theorem dX12_judged_127 : decode cX12_judged 127 = .ok (.iaload, 1) := by decide +kernel
theorem dX12_judged_128 : decode cX12_judged 128 = .ok (.iload 4, 2) := by decide +kernel
theorem dX12_judged_130 : decode cX12_judged 130 = .ok (.invokestatic 187, 3) := by decide +kernel
theorem dX12_judged_133 : decode cX12_judged 133 = .ok (.ifCond .ne 5, 3) := by decide +kernel
theorem dX12_judged_136 : decode cX12_judged 136 = .ok (.iload_n 3, 1) := by decide +kernel
theorem dX12_judged_137 : decode cX12_judged 137 = .ok (.ireturn, 1) := by decide +kernel
theorem dX12_judged_138 : decode cX12_judged 138 = .ok (.aload_n 0, 1) := by decide +kernel
theorem dX12_judged_139 : decode cX12_judged 139 = .ok (.aload_n 0, 1) := by decide +kernel
theorem dX12_judged_140 : decode cX12_judged 140 = .ok (.iconst 3, 1) := by decide +kernel
theorem dX12_judged_141 : decode cX12_judged 141 = .ok (.iload_n 3, 1) := by decide +kernel
theorem dX12_judged_142 : decode cX12_judged 142 = .ok (.imul, 1) := by decide +kernel
theorem dX12_judged_143 : decode cX12_judged 143 = .ok (.invokevirtual 404, 3) := by decide +kernel
theorem dX12_judged_146 : decode cX12_judged 146 = .ok (.aload_n 0, 1) := by decide +kernel
theorem dX12_judged_147 : decode cX12_judged 147 = .ok (.iconst 3, 1) := by decide +kernel
theorem dX12_judged_148 : decode cX12_judged 148 = .ok (.iload_n 3, 1) := by decide +kernel
theorem dX12_judged_149 : decode cX12_judged 149 = .ok (.imul, 1) := by decide +kernel
theorem dX12_judged_150 : decode cX12_judged 150 = .ok (.iconst 1, 1) := by decide +kernel
theorem dX12_judged_151 : decode cX12_judged 151 = .ok (.iadd, 1) := by decide +kernel
theorem dX12_judged_152 : decode cX12_judged 152 = .ok (.invokevirtual 404, 3) := by decide +kernel
theorem dX12_judged_155 : decode cX12_judged 155 = .ok (.iload 4, 2) := by decide +kernel
theorem dX12_judged_157 : decode cX12_judged 157 = .ok (.invokevirtual 371, 3) := by decide +kernel
theorem dX12_judged_160 : decode cX12_judged 160 = .ok (.aload_n 0, 1) := by decide +kernel
theorem dX12_judged_161 : decode cX12_judged 161 = .ok (.iload_n 1, 1) := by decide +kernel
theorem dX12_judged_162 : decode cX12_judged 162 = .ok (.invokevirtual 375, 3) := by decide +kernel
theorem dX12_judged_165 : decode cX12_judged 165 = .ok (.ifCond .ne 5, 3) := by decide +kernel
theorem dX12_judged_168 : decode cX12_judged 168 = .ok (.iload_n 3, 1) := by decide +kernel
theorem dX12_judged_169 : decode cX12_judged 169 = .ok (.ireturn, 1) := by decide +kernel
theorem dX12_judged_170 : decode cX12_judged 170 = .ok (.aload_n 0, 1) := by decide +kernel
theorem dX12_judged_171 : decode cX12_judged 171 = .ok (.aload_n 0, 1) := by decide +kernel
theorem dX12_judged_172 : decode cX12_judged 172 = .ok (.iconst 3, 1) := by decide +kernel
theorem dX12_judged_173 : decode cX12_judged 173 = .ok (.iload_n 3, 1) := by decide +kernel
theorem dX12_judged_174 : decode cX12_judged 174 = .ok (.imul, 1) := by decide +kernel
theorem dX12_judged_175 : decode cX12_judged 175 = .ok (.invokevirtual 404, 3) := by decide +kernel
theorem dX12_judged_178 : decode cX12_judged 178 = .ok (.iload 4, 2) := by decide +kernel
theorem dX12_judged_180 : decode cX12_judged 180 = .ok (.invokevirtual 407, 3) := by decide +kernel
theorem dX12_judged_183 : decode cX12_judged 183 = .ok (.iinc 3 1, 3) := by decide +kernel
theorem dX12_judged_186 : decode cX12_judged 186 = .ok (.goto (-96), 3) := by decide +kernel
theorem dX12_judged_189 : decode cX12_judged 189 = .ok (.iload_n 2, 1) := by decide +kernel
theorem dX12_judged_190 : decode cX12_judged 190 = .ok (.ireturn, 1) := by decide +kernel
theorem dX12_pairBehind_0 : decode cX12_pairBehind 0 = .ok (.bipush 25, 2) := by decide +kernel
theorem dX12_pairBehind_2 : decode cX12_pairBehind 2 = .ok (.iload_n 1, 1) := by decide +kernel
theorem dX12_pairBehind_3 : decode cX12_pairBehind 3 = .ok (.imul, 1) := by decide +kernel
theorem dX12_pairBehind_4 : decode cX12_pairBehind 4 = .ok (.iload_n 0, 1) := by decide +kernel
theorem dX12_pairBehind_5 : decode cX12_pairBehind 5 = .ok (.bipush 25, 2) := by decide +kernel
theorem dX12_pairBehind_7 : decode cX12_pairBehind 7 = .ok (.idiv, 1) := by decide +kernel
theorem dX12_pairBehind_8 : decode cX12_pairBehind 8 = .ok (.iadd, 1) := by decide +kernel
theorem dX12_pairBehind_9 : decode cX12_pairBehind 9 = .ok (.ireturn, 1) := by decide +kernel
theorem dX12_reaches_0 : decode cX12_reaches 0 = .ok (.iconst 0, 1) := by decide +kernel
theorem dX12_reaches_1 : decode cX12_reaches 1 = .ok (.istore 4, 2) := by decide +kernel
theorem dX12_reaches_3 : decode cX12_reaches 3 = .ok (.iload 4, 2) := by decide +kernel
theorem dX12_reaches_5 : decode cX12_reaches 5 = .ok (.sipush 8125, 3) := by decide +kernel
theorem dX12_reaches_8 : decode cX12_reaches 8 = .ok (.if_icmp .ge 17, 3) := by decide +kernel
theorem dX12_reaches_11 : decode cX12_reaches 11 = .ok (.aload_n 0, 1) := by decide +kernel
theorem dX12_reaches_12 : decode cX12_reaches 12 = .ok (.getfield 109, 3) := by decide +kernel
theorem dX12_reaches_15 : decode cX12_reaches 15 = .ok (.iload 4, 2) := by decide +kernel
theorem dX12_reaches_17 : decode cX12_reaches 17 = .ok (.iconst 0, 1) := by decide +kernel
theorem dX12_reaches_18 : decode cX12_reaches 18 = .ok (.bastore, 1) := by decide +kernel
theorem dX12_reaches_19 : decode cX12_reaches 19 = .ok (.iinc 4 1, 3) := by decide +kernel
theorem dX12_reaches_22 : decode cX12_reaches 22 = .ok (.goto (-19), 3) := by decide +kernel
theorem dX12_reaches_25 : decode cX12_reaches 25 = .ok (.aload_n 0, 1) := by decide +kernel
theorem dX12_reaches_26 : decode cX12_reaches 26 = .ok (.getfield 109, 3) := by decide +kernel
theorem dX12_reaches_29 : decode cX12_reaches 29 = .ok (.aload_n 0, 1) := by decide +kernel
theorem dX12_reaches_30 : decode cX12_reaches 30 = .ok (.invokevirtual 410, 3) := by decide +kernel
theorem dX12_reaches_33 : decode cX12_reaches 33 = .ok (.iconst 1, 1) := by decide +kernel
theorem dX12_reaches_34 : decode cX12_reaches 34 = .ok (.bastore, 1) := by decide +kernel
theorem dX12_reaches_35 : decode cX12_reaches 35 = .ok (.iconst 0, 1) := by decide +kernel
theorem dX12_reaches_36 : decode cX12_reaches 36 = .ok (.istore 4, 2) := by decide +kernel
theorem dX12_reaches_38 : decode cX12_reaches 38 = .ok (.iconst 0, 1) := by decide +kernel
theorem dX12_reaches_39 : decode cX12_reaches 39 = .ok (.istore 5, 2) := by decide +kernel
theorem dX12_reaches_41 : decode cX12_reaches 41 = .ok (.iload 5, 2) := by decide +kernel
theorem dX12_reaches_43 : decode cX12_reaches 43 = .ok (.iload_n 2, 1) := by decide +kernel
theorem dX12_reaches_44 : decode cX12_reaches 44 = .ok (.if_icmp .ge 167, 3) := by decide +kernel
theorem dX12_reaches_47 : decode cX12_reaches 47 = .ok (.iconst 0, 1) := by decide +kernel
theorem dX12_reaches_48 : decode cX12_reaches 48 = .ok (.istore 6, 2) := by decide +kernel
theorem dX12_reaches_50 : decode cX12_reaches 50 = .ok (.iload 6, 2) := by decide +kernel
theorem dX12_reaches_52 : decode cX12_reaches 52 = .ok (.sipush 625, 3) := by decide +kernel
theorem dX12_reaches_55 : decode cX12_reaches 55 = .ok (.if_icmp .ge 150, 3) := by decide +kernel
theorem dX12_reaches_58 : decode cX12_reaches 58 = .ok (.aload_n 0, 1) := by decide +kernel
theorem dX12_reaches_59 : decode cX12_reaches 59 = .ok (.getfield 109, 3) := by decide +kernel
theorem dX12_reaches_62 : decode cX12_reaches 62 = .ok (.sipush 625, 3) := by decide +kernel
theorem dX12_reaches_65 : decode cX12_reaches 65 = .ok (.iload 5, 2) := by decide +kernel
theorem dX12_reaches_67 : decode cX12_reaches 67 = .ok (.imul, 1) := by decide +kernel
theorem dX12_reaches_68 : decode cX12_reaches 68 = .ok (.iload 6, 2) := by decide +kernel
theorem dX12_reaches_70 : decode cX12_reaches 70 = .ok (.iadd, 1) := by decide +kernel
theorem dX12_reaches_71 : decode cX12_reaches 71 = .ok (.baload, 1) := by decide +kernel
theorem dX12_reaches_72 : decode cX12_reaches 72 = .ok (.ifCond .ne 6, 3) := by decide +kernel
theorem dX12_reaches_75 : decode cX12_reaches 75 = .ok (.goto 124, 3) := by decide +kernel
theorem dX12_reaches_78 : decode cX12_reaches 78 = .ok (.aload_n 0, 1) := by decide +kernel
theorem dX12_reaches_79 : decode cX12_reaches 79 = .ok (.iload 5, 2) := by decide +kernel
theorem dX12_reaches_81 : decode cX12_reaches 81 = .ok (.iload 6, 2) := by decide +kernel
theorem dX12_reaches_83 : decode cX12_reaches 83 = .ok (.bipush 25, 2) := by decide +kernel
theorem dX12_reaches_85 : decode cX12_reaches 85 = .ok (.idiv, 1) := by decide +kernel
theorem dX12_reaches_86 : decode cX12_reaches 86 = .ok (.iload 6, 2) := by decide +kernel
theorem dX12_reaches_88 : decode cX12_reaches 88 = .ok (.bipush 25, 2) := by decide +kernel
theorem dX12_reaches_90 : decode cX12_reaches 90 = .ok (.irem, 1) := by decide +kernel
theorem dX12_reaches_91 : decode cX12_reaches 91 = .ok (.invokevirtual 413, 3) := by decide +kernel
theorem dX12_reaches_94 : decode cX12_reaches 94 = .ok (.aload_n 0, 1) := by decide +kernel
theorem dX12_reaches_95 : decode cX12_reaches 95 = .ok (.iload_n 1, 1) := by decide +kernel
theorem dX12_reaches_96 : decode cX12_reaches 96 = .ok (.aload_n 0, 1) := by decide +kernel
theorem dX12_reaches_97 : decode cX12_reaches 97 = .ok (.getfield 94, 3) := by decide +kernel
theorem dX12_reaches_100 : decode cX12_reaches 100 = .ok (.iload 5, 2) := by decide +kernel
theorem dX12_reaches_102 : decode cX12_reaches 102 = .ok (.iaload, 1) := by decide +kernel
theorem dX12_reaches_103 : decode cX12_reaches 103 = .ok (.aload_n 0, 1) := by decide +kernel
theorem dX12_reaches_104 : decode cX12_reaches 104 = .ok (.getfield 97, 3) := by decide +kernel
theorem dX12_reaches_107 : decode cX12_reaches 107 = .ok (.iload 5, 2) := by decide +kernel
theorem dX12_reaches_109 : decode cX12_reaches 109 = .ok (.iaload, 1) := by decide +kernel
theorem dX12_reaches_110 : decode cX12_reaches 110 = .ok (.invokevirtual 392, 3) := by decide +kernel
theorem dX12_reaches_113 : decode cX12_reaches 113 = .ok (.iload_n 3, 1) := by decide +kernel
theorem dX12_reaches_114 : decode cX12_reaches 114 = .ok (.aload_n 0, 1) := by decide +kernel
theorem dX12_reaches_115 : decode cX12_reaches 115 = .ok (.getfield 100, 3) := by decide +kernel
theorem dX12_reaches_118 : decode cX12_reaches 118 = .ok (.iload 5, 2) := by decide +kernel
theorem dX12_reaches_120 : decode cX12_reaches 120 = .ok (.iaload, 1) := by decide +kernel
theorem dX12_reaches_121 : decode cX12_reaches 121 = .ok (.invokestatic 416, 3) := by decide +kernel
theorem dX12_reaches_124 : decode cX12_reaches 124 = .ok (.istore 7, 2) := by decide +kernel
theorem dX12_reaches_126 : decode cX12_reaches 126 = .ok (.aload_n 0, 1) := by decide +kernel
theorem dX12_reaches_127 : decode cX12_reaches 127 = .ok (.getfield 103, 3) := by decide +kernel
theorem dX12_reaches_130 : decode cX12_reaches 130 = .ok (.sipush 625, 3) := by decide +kernel
theorem dX12_reaches_133 : decode cX12_reaches 133 = .ok (.iload 5, 2) := by decide +kernel
theorem dX12_reaches_135 : decode cX12_reaches 135 = .ok (.imul, 1) := by decide +kernel
theorem dX12_reaches_136 : decode cX12_reaches 136 = .ok (.iload 6, 2) := by decide +kernel
theorem dX12_reaches_138 : decode cX12_reaches 138 = .ok (.iadd, 1) := by decide +kernel
theorem dX12_reaches_139 : decode cX12_reaches 139 = .ok (.iload 7, 2) := by decide +kernel
theorem dX12_reaches_141 : decode cX12_reaches 141 = .ok (.iastore, 1) := by decide +kernel
theorem dX12_reaches_142 : decode cX12_reaches 142 = .ok (.iconst 1, 1) := by decide +kernel
theorem dX12_reaches_143 : decode cX12_reaches 143 = .ok (.istore 8, 2) := by decide +kernel
theorem dX12_reaches_145 : decode cX12_reaches 145 = .ok (.iload 8, 2) := by decide +kernel
theorem dX12_reaches_147 : decode cX12_reaches 147 = .ok (.bipush 24, 2) := by decide +kernel
theorem dX12_reaches_149 : decode cX12_reaches 149 = .ok (.if_icmp .gt 50, 3) := by decide +kernel
theorem dX12_reaches_152 : decode cX12_reaches 152 = .ok (.iload 7, 2) := by decide +kernel
theorem dX12_reaches_154 : decode cX12_reaches 154 = .ok (.iload 8, 2) := by decide +kernel
theorem dX12_reaches_156 : decode cX12_reaches 156 = .ok (.invokestatic 187, 3) := by decide +kernel
theorem dX12_reaches_159 : decode cX12_reaches 159 = .ok (.ifCond .ne 6, 3) := by decide +kernel
theorem dX12_reaches_162 : decode cX12_reaches 162 = .ok (.goto 31, 3) := by decide +kernel
theorem dX12_reaches_165 : decode cX12_reaches 165 = .ok (.aload_n 0, 1) := by decide +kernel
theorem dX12_reaches_166 : decode cX12_reaches 166 = .ok (.getfield 109, 3) := by decide +kernel
theorem dX12_reaches_169 : decode cX12_reaches 169 = .ok (.sipush 625, 3) := by decide +kernel
theorem dX12_reaches_172 : decode cX12_reaches 172 = .ok (.iload 5, 2) := by decide +kernel
theorem dX12_reaches_174 : decode cX12_reaches 174 = .ok (.iconst 1, 1) := by decide +kernel
theorem dX12_reaches_175 : decode cX12_reaches 175 = .ok (.iadd, 1) := by decide +kernel
theorem dX12_reaches_176 : decode cX12_reaches 176 = .ok (.imul, 1) := by decide +kernel
theorem dX12_reaches_177 : decode cX12_reaches 177 = .ok (.iload 6, 2) := by decide +kernel
theorem dX12_reaches_179 : decode cX12_reaches 179 = .ok (.iload 8, 2) := by decide +kernel
theorem dX12_reaches_181 : decode cX12_reaches 181 = .ok (.invokestatic 419, 3) := by decide +kernel
theorem dX12_reaches_184 : decode cX12_reaches 184 = .ok (.iadd, 1) := by decide +kernel
theorem dX12_reaches_185 : decode cX12_reaches 185 = .ok (.iconst 1, 1) := by decide +kernel
theorem dX12_reaches_186 : decode cX12_reaches 186 = .ok (.bastore, 1) := by decide +kernel
theorem dX12_reaches_187 : decode cX12_reaches 187 = .ok (.iload 5, 2) := by decide +kernel
theorem dX12_reaches_189 : decode cX12_reaches 189 = .ok (.iconst 1, 1) := by decide +kernel
theorem dX12_reaches_190 : decode cX12_reaches 190 = .ok (.iadd, 1) := by decide +kernel
theorem dX12_reaches_191 : decode cX12_reaches 191 = .ok (.istore 4, 2) := by decide +kernel
theorem dX12_reaches_193 : decode cX12_reaches 193 = .ok (.iinc 8 1, 3) := by decide +kernel
theorem dX12_reaches_196 : decode cX12_reaches 196 = .ok (.goto (-51), 3) := by decide +kernel
theorem dX12_reaches_199 : decode cX12_reaches 199 = .ok (.iinc 6 1, 3) := by decide +kernel
theorem dX12_reaches_202 : decode cX12_reaches 202 = .ok (.goto (-152), 3) := by decide +kernel
theorem dX12_reaches_205 : decode cX12_reaches 205 = .ok (.iinc 5 1, 3) := by decide +kernel
theorem dX12_reaches_208 : decode cX12_reaches 208 = .ok (.goto (-167), 3) := by decide +kernel
theorem dX12_reaches_211 : decode cX12_reaches 211 = .ok (.iload 4, 2) := by decide +kernel
theorem dX12_reaches_213 : decode cX12_reaches 213 = .ok (.ireturn, 1) := by decide +kernel
theorem dX12_laysAny_0 : decode cX12_laysAny 0 = .ok (.iconst 0, 1) := by decide +kernel
theorem dX12_laysAny_1 : decode cX12_laysAny 1 = .ok (.istore_n 3, 1) := by decide +kernel
theorem dX12_laysAny_2 : decode cX12_laysAny 2 = .ok (.iload_n 3, 1) := by decide +kernel
theorem dX12_laysAny_3 : decode cX12_laysAny 3 = .ok (.iload_n 2, 1) := by decide +kernel
theorem dX12_laysAny_4 : decode cX12_laysAny 4 = .ok (.if_icmp .ge 18, 3) := by decide +kernel
theorem dX12_laysAny_7 : decode cX12_laysAny 7 = .ok (.aload_n 0, 1) := by decide +kernel
theorem dX12_laysAny_8 : decode cX12_laysAny 8 = .ok (.getfield 94, 3) := by decide +kernel
theorem dX12_laysAny_11 : decode cX12_laysAny 11 = .ok (.iload_n 3, 1) := by decide +kernel
theorem dX12_laysAny_12 : decode cX12_laysAny 12 = .ok (.iload_n 3, 1) := by decide +kernel
theorem dX12_laysAny_13 : decode cX12_laysAny 13 = .ok (.iconst 2, 1) := by decide +kernel
theorem dX12_laysAny_14 : decode cX12_laysAny 14 = .ok (.irem, 1) := by decide +kernel
theorem dX12_laysAny_15 : decode cX12_laysAny 15 = .ok (.iastore, 1) := by decide +kernel
theorem dX12_laysAny_16 : decode cX12_laysAny 16 = .ok (.iinc 3 1, 3) := by decide +kernel
theorem dX12_laysAny_19 : decode cX12_laysAny 19 = .ok (.goto (-17), 3) := by decide +kernel
theorem dX12_laysAny_22 : decode cX12_laysAny 22 = .ok (.iconst 0, 1) := by decide +kernel
theorem dX12_laysAny_23 : decode cX12_laysAny 23 = .ok (.istore_n 3, 1) := by decide +kernel
theorem dX12_laysAny_24 : decode cX12_laysAny 24 = .ok (.iload_n 3, 1) := by decide +kernel
theorem dX12_laysAny_25 : decode cX12_laysAny 25 = .ok (.iload_n 2, 1) := by decide +kernel
theorem dX12_laysAny_26 : decode cX12_laysAny 26 = .ok (.if_icmp .ge 176, 3) := by decide +kernel
theorem dX12_laysAny_29 : decode cX12_laysAny 29 = .ok (.iconst 0, 1) := by decide +kernel
theorem dX12_laysAny_30 : decode cX12_laysAny 30 = .ok (.istore 4, 2) := by decide +kernel
theorem dX12_laysAny_32 : decode cX12_laysAny 32 = .ok (.iload 4, 2) := by decide +kernel
theorem dX12_laysAny_34 : decode cX12_laysAny 34 = .ok (.iload_n 1, 1) := by decide +kernel
theorem dX12_laysAny_35 : decode cX12_laysAny 35 = .ok (.if_icmp .ge 161, 3) := by decide +kernel
theorem dX12_laysAny_38 : decode cX12_laysAny 38 = .ok (.iconst 0, 1) := by decide +kernel
theorem dX12_laysAny_39 : decode cX12_laysAny 39 = .ok (.istore 5, 2) := by decide +kernel
theorem dX12_laysAny_41 : decode cX12_laysAny 41 = .ok (.iload 5, 2) := by decide +kernel
theorem dX12_laysAny_43 : decode cX12_laysAny 43 = .ok (.sipush 625, 3) := by decide +kernel
theorem dX12_laysAny_46 : decode cX12_laysAny 46 = .ok (.if_icmp .ge 144, 3) := by decide +kernel
theorem dX12_laysAny_49 : decode cX12_laysAny 49 = .ok (.iload_n 3, 1) := by decide +kernel
theorem dX12_laysAny_50 : decode cX12_laysAny 50 = .ok (.iconst 1, 1) := by decide +kernel
theorem dX12_laysAny_51 : decode cX12_laysAny 51 = .ok (.if_icmp .le 27, 3) := by decide +kernel
theorem dX12_laysAny_54 : decode cX12_laysAny 54 = .ok (.iload 5, 2) := by decide +kernel
theorem dX12_laysAny_56 : decode cX12_laysAny 56 = .ok (.bipush 25, 2) := by decide +kernel
theorem dX12_laysAny_58 : decode cX12_laysAny 58 = .ok (.irem, 1) := by decide +kernel
theorem dX12_laysAny_59 : decode cX12_laysAny 59 = .ok (.ifCond .le 15, 3) := by decide +kernel
theorem dX12_laysAny_62 : decode cX12_laysAny 62 = .ok (.iload 5, 2) := by decide +kernel
theorem dX12_laysAny_64 : decode cX12_laysAny 64 = .ok (.bipush 25, 2) := by decide +kernel
theorem dX12_laysAny_66 : decode cX12_laysAny 66 = .ok (.idiv, 1) := by decide +kernel
theorem dX12_laysAny_67 : decode cX12_laysAny 67 = .ok (.ifCond .le 7, 3) := by decide +kernel
theorem dX12_laysAny_70 : decode cX12_laysAny 70 = .ok (.iconst 1, 1) := by decide +kernel
theorem dX12_laysAny_71 : decode cX12_laysAny 71 = .ok (.goto 52, 3) := by decide +kernel
theorem dX12_laysAny_74 : decode cX12_laysAny 74 = .ok (.iconst 0, 1) := by decide +kernel
theorem dX12_laysAny_75 : decode cX12_laysAny 75 = .ok (.goto 48, 3) := by decide +kernel
theorem dX12_laysAny_78 : decode cX12_laysAny 78 = .ok (.iload_n 3, 1) := by decide +kernel
theorem dX12_laysAny_79 : decode cX12_laysAny 79 = .ok (.iconst 1, 1) := by decide +kernel
theorem dX12_laysAny_80 : decode cX12_laysAny 80 = .ok (.if_icmp .ne 29, 3) := by decide +kernel
theorem dX12_laysAny_83 : decode cX12_laysAny 83 = .ok (.iload 5, 2) := by decide +kernel
theorem dX12_laysAny_85 : decode cX12_laysAny 85 = .ok (.bipush 25, 2) := by decide +kernel
theorem dX12_laysAny_87 : decode cX12_laysAny 87 = .ok (.irem, 1) := by decide +kernel
theorem dX12_laysAny_88 : decode cX12_laysAny 88 = .ok (.aload_n 0, 1) := by decide +kernel
theorem dX12_laysAny_89 : decode cX12_laysAny 89 = .ok (.aload_n 0, 1) := by decide +kernel
theorem dX12_laysAny_90 : decode cX12_laysAny 90 = .ok (.getfield 386, 3) := by decide +kernel
theorem dX12_laysAny_93 : decode cX12_laysAny 93 = .ok (.iconst 1, 1) := by decide +kernel
theorem dX12_laysAny_94 : decode cX12_laysAny 94 = .ok (.isub, 1) := by decide +kernel
theorem dX12_laysAny_95 : decode cX12_laysAny 95 = .ok (.invokevirtual 366, 3) := by decide +kernel
theorem dX12_laysAny_98 : decode cX12_laysAny 98 = .ok (.if_icmp .ne 7, 3) := by decide +kernel
theorem dX12_laysAny_101 : decode cX12_laysAny 101 = .ok (.iconst 1, 1) := by decide +kernel
theorem dX12_laysAny_102 : decode cX12_laysAny 102 = .ok (.goto 21, 3) := by decide +kernel
theorem dX12_laysAny_105 : decode cX12_laysAny 105 = .ok (.iconst 0, 1) := by decide +kernel
theorem dX12_laysAny_106 : decode cX12_laysAny 106 = .ok (.goto 17, 3) := by decide +kernel
theorem dX12_laysAny_109 : decode cX12_laysAny 109 = .ok (.iload 5, 2) := by decide +kernel
theorem dX12_laysAny_111 : decode cX12_laysAny 111 = .ok (.aload_n 0, 1) := by decide +kernel
theorem dX12_laysAny_112 : decode cX12_laysAny 112 = .ok (.invokevirtual 410, 3) := by decide +kernel
theorem dX12_laysAny_115 : decode cX12_laysAny 115 = .ok (.if_icmp .ne 7, 3) := by decide +kernel
theorem dX12_laysAny_118 : decode cX12_laysAny 118 = .ok (.iconst 1, 1) := by decide +kernel
theorem dX12_laysAny_119 : decode cX12_laysAny 119 = .ok (.goto 4, 3) := by decide +kernel
theorem dX12_laysAny_122 : decode cX12_laysAny 122 = .ok (.iconst 0, 1) := by decide +kernel
theorem dX12_laysAny_123 : decode cX12_laysAny 123 = .ok (.istore 6, 2) := by decide +kernel
theorem dX12_laysAny_125 : decode cX12_laysAny 125 = .ok (.iload 6, 2) := by decide +kernel
theorem dX12_laysAny_127 : decode cX12_laysAny 127 = .ok (.ifCond .ne 6, 3) := by decide +kernel
theorem dX12_laysAny_130 : decode cX12_laysAny 130 = .ok (.goto 54, 3) := by decide +kernel
theorem dX12_laysAny_133 : decode cX12_laysAny 133 = .ok (.aload_n 0, 1) := by decide +kernel
theorem dX12_laysAny_134 : decode cX12_laysAny 134 = .ok (.iload_n 3, 1) := by decide +kernel
theorem dX12_laysAny_135 : decode cX12_laysAny 135 = .ok (.iload 5, 2) := by decide +kernel
theorem dX12_laysAny_137 : decode cX12_laysAny 137 = .ok (.bipush 25, 2) := by decide +kernel
theorem dX12_laysAny_139 : decode cX12_laysAny 139 = .ok (.idiv, 1) := by decide +kernel
theorem dX12_laysAny_140 : decode cX12_laysAny 140 = .ok (.iload 5, 2) := by decide +kernel
theorem dX12_laysAny_142 : decode cX12_laysAny 142 = .ok (.bipush 25, 2) := by decide +kernel
theorem dX12_laysAny_144 : decode cX12_laysAny 144 = .ok (.irem, 1) := by decide +kernel
theorem dX12_laysAny_145 : decode cX12_laysAny 145 = .ok (.invokevirtual 413, 3) := by decide +kernel
theorem dX12_laysAny_148 : decode cX12_laysAny 148 = .ok (.aload_n 0, 1) := by decide +kernel
theorem dX12_laysAny_149 : decode cX12_laysAny 149 = .ok (.getfield 118, 3) := by decide +kernel
theorem dX12_laysAny_152 : decode cX12_laysAny 152 = .ok (.iconst 4, 1) := by decide +kernel
theorem dX12_laysAny_153 : decode cX12_laysAny 153 = .ok (.iload_n 3, 1) := by decide +kernel
theorem dX12_laysAny_154 : decode cX12_laysAny 154 = .ok (.imul, 1) := by decide +kernel
theorem dX12_laysAny_155 : decode cX12_laysAny 155 = .ok (.iload 4, 2) := by decide +kernel
theorem dX12_laysAny_157 : decode cX12_laysAny 157 = .ok (.iadd, 1) := by decide +kernel
theorem dX12_laysAny_158 : decode cX12_laysAny 158 = .ok (.sipush 625, 3) := by decide +kernel
theorem dX12_laysAny_161 : decode cX12_laysAny 161 = .ok (.imul, 1) := by decide +kernel
theorem dX12_laysAny_162 : decode cX12_laysAny 162 = .ok (.iload 5, 2) := by decide +kernel
theorem dX12_laysAny_164 : decode cX12_laysAny 164 = .ok (.iadd, 1) := by decide +kernel
theorem dX12_laysAny_165 : decode cX12_laysAny 165 = .ok (.aload_n 0, 1) := by decide +kernel
theorem dX12_laysAny_166 : decode cX12_laysAny 166 = .ok (.iconst 1, 1) := by decide +kernel
theorem dX12_laysAny_167 : decode cX12_laysAny 167 = .ok (.aload_n 0, 1) := by decide +kernel
theorem dX12_laysAny_168 : decode cX12_laysAny 168 = .ok (.getfield 94, 3) := by decide +kernel
theorem dX12_laysAny_171 : decode cX12_laysAny 171 = .ok (.iload_n 3, 1) := by decide +kernel
theorem dX12_laysAny_172 : decode cX12_laysAny 172 = .ok (.iaload, 1) := by decide +kernel
theorem dX12_laysAny_173 : decode cX12_laysAny 173 = .ok (.aload_n 0, 1) := by decide +kernel
theorem dX12_laysAny_174 : decode cX12_laysAny 174 = .ok (.getfield 115, 3) := by decide +kernel
theorem dX12_laysAny_177 : decode cX12_laysAny 177 = .ok (.iload 4, 2) := by decide +kernel
theorem dX12_laysAny_179 : decode cX12_laysAny 179 = .ok (.iaload, 1) := by decide +kernel
theorem dX12_laysAny_180 : decode cX12_laysAny 180 = .ok (.invokevirtual 392, 3) := by decide +kernel
theorem dX12_laysAny_183 : decode cX12_laysAny 183 = .ok (.iastore, 1) := by decide +kernel
theorem dX12_laysAny_184 : decode cX12_laysAny 184 = .ok (.iinc 5 1, 3) := by decide +kernel
theorem dX12_laysAny_187 : decode cX12_laysAny 187 = .ok (.goto (-146), 3) := by decide +kernel
theorem dX12_laysAny_190 : decode cX12_laysAny 190 = .ok (.iinc 4 1, 3) := by decide +kernel
theorem dX12_laysAny_193 : decode cX12_laysAny 193 = .ok (.goto (-161), 3) := by decide +kernel
theorem dX12_laysAny_196 : decode cX12_laysAny 196 = .ok (.iinc 3 1, 3) := by decide +kernel
theorem dX12_laysAny_199 : decode cX12_laysAny 199 = .ok (.goto (-175), 3) := by decide +kernel
theorem dX12_laysAny_202 : decode cX12_laysAny 202 = .ok (.return_, 1) := by decide +kernel
theorem dX12_powerOf_0 : decode cX12_powerOf 0 = .ok (.iconst 1, 1) := by decide +kernel
theorem dX12_powerOf_1 : decode cX12_powerOf 1 = .ok (.istore_n 2, 1) := by decide +kernel
theorem dX12_powerOf_2 : decode cX12_powerOf 2 = .ok (.iconst 0, 1) := by decide +kernel
theorem dX12_powerOf_3 : decode cX12_powerOf 3 = .ok (.istore_n 3, 1) := by decide +kernel
theorem dX12_powerOf_4 : decode cX12_powerOf 4 = .ok (.iload_n 3, 1) := by decide +kernel
theorem dX12_powerOf_5 : decode cX12_powerOf 5 = .ok (.iload_n 1, 1) := by decide +kernel
theorem dX12_powerOf_6 : decode cX12_powerOf 6 = .ok (.if_icmp .ge 13, 3) := by decide +kernel
theorem dX12_powerOf_9 : decode cX12_powerOf 9 = .ok (.iload_n 2, 1) := by decide +kernel
theorem dX12_powerOf_10 : decode cX12_powerOf 10 = .ok (.iload_n 0, 1) := by decide +kernel
theorem dX12_powerOf_11 : decode cX12_powerOf 11 = .ok (.imul, 1) := by decide +kernel
theorem dX12_powerOf_12 : decode cX12_powerOf 12 = .ok (.istore_n 2, 1) := by decide +kernel
theorem dX12_powerOf_13 : decode cX12_powerOf 13 = .ok (.iinc 3 1, 3) := by decide +kernel
theorem dX12_powerOf_16 : decode cX12_powerOf 16 = .ok (.goto (-12), 3) := by decide +kernel
theorem dX12_powerOf_19 : decode cX12_powerOf 19 = .ok (.iload_n 2, 1) := by decide +kernel
theorem dX12_powerOf_20 : decode cX12_powerOf 20 = .ok (.ireturn, 1) := by decide +kernel
theorem dX12_maySay_0 : decode cX12_maySay 0 = .ok (.iconst 0, 1) := by decide +kernel
theorem dX12_maySay_1 : decode cX12_maySay 1 = .ok (.istore_n 3, 1) := by decide +kernel
theorem dX12_maySay_2 : decode cX12_maySay 2 = .ok (.iload_n 3, 1) := by decide +kernel
theorem dX12_maySay_3 : decode cX12_maySay 3 = .ok (.bipush 6, 2) := by decide +kernel
theorem dX12_maySay_5 : decode cX12_maySay 5 = .ok (.if_icmp .ge 68, 3) := by decide +kernel
theorem dX12_maySay_8 : decode cX12_maySay 8 = .ok (.iconst 0, 1) := by decide +kernel
theorem dX12_maySay_9 : decode cX12_maySay 9 = .ok (.istore 4, 2) := by decide +kernel
theorem dX12_maySay_11 : decode cX12_maySay 11 = .ok (.iload 4, 2) := by decide +kernel
theorem dX12_maySay_13 : decode cX12_maySay 13 = .ok (.bipush 12, 2) := by decide +kernel
theorem dX12_maySay_15 : decode cX12_maySay 15 = .ok (.if_icmp .ge 52, 3) := by decide +kernel
theorem dX12_maySay_18 : decode cX12_maySay 18 = .ok (.iload_n 1, 1) := by decide +kernel
theorem dX12_maySay_19 : decode cX12_maySay 19 = .ok (.iload_n 3, 1) := by decide +kernel
theorem dX12_maySay_20 : decode cX12_maySay 20 = .ok (.invokestatic 187, 3) := by decide +kernel
theorem dX12_maySay_23 : decode cX12_maySay 23 = .ok (.ifCond .eq 44, 3) := by decide +kernel
theorem dX12_maySay_26 : decode cX12_maySay 26 = .ok (.aload_n 0, 1) := by decide +kernel
theorem dX12_maySay_27 : decode cX12_maySay 27 = .ok (.getfield 17, 3) := by decide +kernel
theorem dX12_maySay_30 : decode cX12_maySay 30 = .ok (.iload 4, 2) := by decide +kernel
theorem dX12_maySay_32 : decode cX12_maySay 32 = .ok (.iaload, 1) := by decide +kernel
theorem dX12_maySay_33 : decode cX12_maySay 33 = .ok (.iload_n 2, 1) := by decide +kernel
theorem dX12_maySay_34 : decode cX12_maySay 34 = .ok (.invokestatic 187, 3) := by decide +kernel
theorem dX12_maySay_37 : decode cX12_maySay 37 = .ok (.ifCond .ne 6, 3) := by decide +kernel
theorem dX12_maySay_40 : decode cX12_maySay 40 = .ok (.goto 21, 3) := by decide +kernel
theorem dX12_maySay_43 : decode cX12_maySay 43 = .ok (.aload_n 0, 1) := by decide +kernel
theorem dX12_maySay_44 : decode cX12_maySay 44 = .ok (.iload_n 3, 1) := by decide +kernel
theorem dX12_maySay_45 : decode cX12_maySay 45 = .ok (.iload 4, 2) := by decide +kernel
theorem dX12_maySay_47 : decode cX12_maySay 47 = .ok (.iload_n 2, 1) := by decide +kernel
theorem dX12_maySay_48 : decode cX12_maySay 48 = .ok (.invokevirtual 371, 3) := by decide +kernel
theorem dX12_maySay_51 : decode cX12_maySay 51 = .ok (.aload_n 0, 1) := by decide +kernel
theorem dX12_maySay_52 : decode cX12_maySay 52 = .ok (.iconst 0, 1) := by decide +kernel
theorem dX12_maySay_53 : decode cX12_maySay 53 = .ok (.invokevirtual 375, 3) := by decide +kernel
theorem dX12_maySay_56 : decode cX12_maySay 56 = .ok (.ifCond .eq 5, 3) := by decide +kernel
theorem dX12_maySay_59 : decode cX12_maySay 59 = .ok (.iconst 1, 1) := by decide +kernel
theorem dX12_maySay_60 : decode cX12_maySay 60 = .ok (.ireturn, 1) := by decide +kernel
theorem dX12_maySay_61 : decode cX12_maySay 61 = .ok (.iinc 4 1, 3) := by decide +kernel
theorem dX12_maySay_64 : decode cX12_maySay 64 = .ok (.goto (-53), 3) := by decide +kernel
theorem dX12_maySay_67 : decode cX12_maySay 67 = .ok (.iinc 3 1, 3) := by decide +kernel
theorem dX12_maySay_70 : decode cX12_maySay 70 = .ok (.goto (-68), 3) := by decide +kernel
theorem dX12_maySay_73 : decode cX12_maySay 73 = .ok (.iconst 0, 1) := by decide +kernel
theorem dX12_maySay_74 : decode cX12_maySay 74 = .ok (.ireturn, 1) := by decide +kernel
theorem dX12_laysRound_0 : decode cX12_laysRound 0 = .ok (.iconst 0, 1) := by decide +kernel
theorem dX12_laysRound_1 : decode cX12_laysRound 1 = .ok (.istore_n 2, 1) := by decide +kernel
theorem dX12_laysRound_2 : decode cX12_laysRound 2 = .ok (.iload_n 2, 1) := by decide +kernel
theorem dX12_laysRound_3 : decode cX12_laysRound 3 = .ok (.iconst 2, 1) := by decide +kernel
theorem dX12_laysRound_4 : decode cX12_laysRound 4 = .ok (.if_icmp .ge 124, 3) := by decide +kernel
theorem dX12_laysRound_7 : decode cX12_laysRound 7 = .ok (.iconst 0, 1) := by decide +kernel
theorem dX12_laysRound_8 : decode cX12_laysRound 8 = .ok (.istore_n 3, 1) := by decide +kernel
theorem dX12_laysRound_9 : decode cX12_laysRound 9 = .ok (.iload_n 3, 1) := by decide +kernel
theorem dX12_laysRound_10 : decode cX12_laysRound 10 = .ok (.sipush 625, 3) := by decide +kernel
theorem dX12_laysRound_13 : decode cX12_laysRound 13 = .ok (.if_icmp .ge 109, 3) := by decide +kernel
theorem dX12_laysRound_16 : decode cX12_laysRound 16 = .ok (.aload_n 0, 1) := by decide +kernel
theorem dX12_laysRound_17 : decode cX12_laysRound 17 = .ok (.aload_n 0, 1) := by decide +kernel
theorem dX12_laysRound_18 : decode cX12_laysRound 18 = .ok (.getfield 386, 3) := by decide +kernel
theorem dX12_laysRound_21 : decode cX12_laysRound 21 = .ok (.putfield 345, 3) := by decide +kernel
theorem dX12_laysRound_24 : decode cX12_laysRound 24 = .ok (.aload_n 0, 1) := by decide +kernel
theorem dX12_laysRound_25 : decode cX12_laysRound 25 = .ok (.iload_n 3, 1) := by decide +kernel
theorem dX12_laysRound_26 : decode cX12_laysRound 26 = .ok (.bipush 25, 2) := by decide +kernel
theorem dX12_laysRound_28 : decode cX12_laysRound 28 = .ok (.idiv, 1) := by decide +kernel
theorem dX12_laysRound_29 : decode cX12_laysRound 29 = .ok (.putfield 336, 3) := by decide +kernel
theorem dX12_laysRound_32 : decode cX12_laysRound 32 = .ok (.aload_n 0, 1) := by decide +kernel
theorem dX12_laysRound_33 : decode cX12_laysRound 33 = .ok (.iload_n 3, 1) := by decide +kernel
theorem dX12_laysRound_34 : decode cX12_laysRound 34 = .ok (.bipush 25, 2) := by decide +kernel
theorem dX12_laysRound_36 : decode cX12_laysRound 36 = .ok (.irem, 1) := by decide +kernel
theorem dX12_laysRound_37 : decode cX12_laysRound 37 = .ok (.putfield 339, 3) := by decide +kernel
theorem dX12_laysRound_40 : decode cX12_laysRound 40 = .ok (.aload_n 0, 1) := by decide +kernel
theorem dX12_laysRound_41 : decode cX12_laysRound 41 = .ok (.iconst 1, 1) := by decide +kernel
theorem dX12_laysRound_42 : decode cX12_laysRound 42 = .ok (.iload_n 2, 1) := by decide +kernel
theorem dX12_laysRound_43 : decode cX12_laysRound 43 = .ok (.isub, 1) := by decide +kernel
theorem dX12_laysRound_44 : decode cX12_laysRound 44 = .ok (.putfield 342, 3) := by decide +kernel
theorem dX12_laysRound_47 : decode cX12_laysRound 47 = .ok (.aload_n 0, 1) := by decide +kernel
theorem dX12_laysRound_48 : decode cX12_laysRound 48 = .ok (.getfield 136, 3) := by decide +kernel
theorem dX12_laysRound_51 : decode cX12_laysRound 51 = .ok (.sipush 625, 3) := by decide +kernel
theorem dX12_laysRound_54 : decode cX12_laysRound 54 = .ok (.iload_n 2, 1) := by decide +kernel
theorem dX12_laysRound_55 : decode cX12_laysRound 55 = .ok (.imul, 1) := by decide +kernel
theorem dX12_laysRound_56 : decode cX12_laysRound 56 = .ok (.iload_n 3, 1) := by decide +kernel
theorem dX12_laysRound_57 : decode cX12_laysRound 57 = .ok (.iadd, 1) := by decide +kernel
theorem dX12_laysRound_58 : decode cX12_laysRound 58 = .ok (.iload_n 3, 1) := by decide +kernel
theorem dX12_laysRound_59 : decode cX12_laysRound 59 = .ok (.bipush 25, 2) := by decide +kernel
theorem dX12_laysRound_61 : decode cX12_laysRound 61 = .ok (.idiv, 1) := by decide +kernel
theorem dX12_laysRound_62 : decode cX12_laysRound 62 = .ok (.ifCond .le 52, 3) := by decide +kernel
theorem dX12_laysRound_65 : decode cX12_laysRound 65 = .ok (.iload_n 3, 1) := by decide +kernel
theorem dX12_laysRound_66 : decode cX12_laysRound 66 = .ok (.bipush 25, 2) := by decide +kernel
theorem dX12_laysRound_68 : decode cX12_laysRound 68 = .ok (.irem, 1) := by decide +kernel
theorem dX12_laysRound_69 : decode cX12_laysRound 69 = .ok (.ifCond .le 45, 3) := by decide +kernel
theorem dX12_laysRound_72 : decode cX12_laysRound 72 = .ok (.aload_n 0, 1) := by decide +kernel
theorem dX12_laysRound_73 : decode cX12_laysRound 73 = .ok (.getfield 17, 3) := by decide +kernel
theorem dX12_laysRound_76 : decode cX12_laysRound 76 = .ok (.iload_n 1, 1) := by decide +kernel
theorem dX12_laysRound_77 : decode cX12_laysRound 77 = .ok (.iaload, 1) := by decide +kernel
theorem dX12_laysRound_78 : decode cX12_laysRound 78 = .ok (.iload_n 3, 1) := by decide +kernel
theorem dX12_laysRound_79 : decode cX12_laysRound 79 = .ok (.bipush 25, 2) := by decide +kernel
theorem dX12_laysRound_81 : decode cX12_laysRound 81 = .ok (.idiv, 1) := by decide +kernel
theorem dX12_laysRound_82 : decode cX12_laysRound 82 = .ok (.invokestatic 187, 3) := by decide +kernel
theorem dX12_laysRound_85 : decode cX12_laysRound 85 = .ok (.ifCond .eq 29, 3) := by decide +kernel
theorem dX12_laysRound_88 : decode cX12_laysRound 88 = .ok (.aload_n 0, 1) := by decide +kernel
theorem dX12_laysRound_89 : decode cX12_laysRound 89 = .ok (.getfield 17, 3) := by decide +kernel
theorem dX12_laysRound_92 : decode cX12_laysRound 92 = .ok (.iload_n 1, 1) := by decide +kernel
theorem dX12_laysRound_93 : decode cX12_laysRound 93 = .ok (.iaload, 1) := by decide +kernel
theorem dX12_laysRound_94 : decode cX12_laysRound 94 = .ok (.iload_n 3, 1) := by decide +kernel
theorem dX12_laysRound_95 : decode cX12_laysRound 95 = .ok (.bipush 25, 2) := by decide +kernel
theorem dX12_laysRound_97 : decode cX12_laysRound 97 = .ok (.irem, 1) := by decide +kernel
theorem dX12_laysRound_98 : decode cX12_laysRound 98 = .ok (.invokestatic 187, 3) := by decide +kernel
theorem dX12_laysRound_101 : decode cX12_laysRound 101 = .ok (.ifCond .eq 13, 3) := by decide +kernel
theorem dX12_laysRound_104 : decode cX12_laysRound 104 = .ok (.aload_n 0, 1) := by decide +kernel
theorem dX12_laysRound_105 : decode cX12_laysRound 105 = .ok (.iconst 1, 1) := by decide +kernel
theorem dX12_laysRound_106 : decode cX12_laysRound 106 = .ok (.iload_n 2, 1) := by decide +kernel
theorem dX12_laysRound_107 : decode cX12_laysRound 107 = .ok (.iload_n 1, 1) := by decide +kernel
theorem dX12_laysRound_108 : decode cX12_laysRound 108 = .ok (.invokevirtual 392, 3) := by decide +kernel
theorem dX12_laysRound_111 : decode cX12_laysRound 111 = .ok (.goto 4, 3) := by decide +kernel
theorem dX12_laysRound_114 : decode cX12_laysRound 114 = .ok (.iconst 0, 1) := by decide +kernel
theorem dX12_laysRound_115 : decode cX12_laysRound 115 = .ok (.iastore, 1) := by decide +kernel
theorem dX12_laysRound_116 : decode cX12_laysRound 116 = .ok (.iinc 3 1, 3) := by decide +kernel
theorem dX12_laysRound_119 : decode cX12_laysRound 119 = .ok (.goto (-110), 3) := by decide +kernel
theorem dX12_laysRound_122 : decode cX12_laysRound 122 = .ok (.iinc 2 1, 3) := by decide +kernel
theorem dX12_laysRound_125 : decode cX12_laysRound 125 = .ok (.goto (-123), 3) := by decide +kernel
theorem dX12_laysRound_128 : decode cX12_laysRound 128 = .ok (.return_, 1) := by decide +kernel
theorem dX12_laysBack_0 : decode cX12_laysBack 0 = .ok (.iconst 0, 1) := by decide +kernel
theorem dX12_laysBack_1 : decode cX12_laysBack 1 = .ok (.istore_n 3, 1) := by decide +kernel
theorem dX12_laysBack_2 : decode cX12_laysBack 2 = .ok (.iload_n 3, 1) := by decide +kernel
theorem dX12_laysBack_3 : decode cX12_laysBack 3 = .ok (.sipush 625, 3) := by decide +kernel
theorem dX12_laysBack_6 : decode cX12_laysBack 6 = .ok (.if_icmp .ge 31, 3) := by decide +kernel
theorem dX12_laysBack_9 : decode cX12_laysBack 9 = .ok (.aload_n 0, 1) := by decide +kernel
theorem dX12_laysBack_10 : decode cX12_laysBack 10 = .ok (.getfield 139, 3) := by decide +kernel
theorem dX12_laysBack_13 : decode cX12_laysBack 13 = .ok (.sipush 625, 3) := by decide +kernel
theorem dX12_laysBack_16 : decode cX12_laysBack 16 = .ok (.iload_n 2, 1) := by decide +kernel
theorem dX12_laysBack_17 : decode cX12_laysBack 17 = .ok (.imul, 1) := by decide +kernel
theorem dX12_laysBack_18 : decode cX12_laysBack 18 = .ok (.iload_n 3, 1) := by decide +kernel
theorem dX12_laysBack_19 : decode cX12_laysBack 19 = .ok (.iadd, 1) := by decide +kernel
theorem dX12_laysBack_20 : decode cX12_laysBack 20 = .ok (.iload_n 3, 1) := by decide +kernel
theorem dX12_laysBack_21 : decode cX12_laysBack 21 = .ok (.iload_n 1, 1) := by decide +kernel
theorem dX12_laysBack_22 : decode cX12_laysBack 22 = .ok (.if_icmp .ne 7, 3) := by decide +kernel
theorem dX12_laysBack_25 : decode cX12_laysBack 25 = .ok (.iconst 1, 1) := by decide +kernel
theorem dX12_laysBack_26 : decode cX12_laysBack 26 = .ok (.goto 4, 3) := by decide +kernel
theorem dX12_laysBack_29 : decode cX12_laysBack 29 = .ok (.iconst 0, 1) := by decide +kernel
theorem dX12_laysBack_30 : decode cX12_laysBack 30 = .ok (.bastore, 1) := by decide +kernel
theorem dX12_laysBack_31 : decode cX12_laysBack 31 = .ok (.iinc 3 1, 3) := by decide +kernel
theorem dX12_laysBack_34 : decode cX12_laysBack 34 = .ok (.goto (-32), 3) := by decide +kernel
theorem dX12_laysBack_37 : decode cX12_laysBack 37 = .ok (.iload_n 2, 1) := by decide +kernel
theorem dX12_laysBack_38 : decode cX12_laysBack 38 = .ok (.iconst 1, 1) := by decide +kernel
theorem dX12_laysBack_39 : decode cX12_laysBack 39 = .ok (.isub, 1) := by decide +kernel
theorem dX12_laysBack_40 : decode cX12_laysBack 40 = .ok (.istore_n 3, 1) := by decide +kernel
theorem dX12_laysBack_41 : decode cX12_laysBack 41 = .ok (.iload_n 3, 1) := by decide +kernel
theorem dX12_laysBack_42 : decode cX12_laysBack 42 = .ok (.ifCond .lt 127, 3) := by decide +kernel
theorem dX12_laysBack_45 : decode cX12_laysBack 45 = .ok (.iconst 0, 1) := by decide +kernel
theorem dX12_laysBack_46 : decode cX12_laysBack 46 = .ok (.istore 4, 2) := by decide +kernel
theorem dX12_laysBack_48 : decode cX12_laysBack 48 = .ok (.iload 4, 2) := by decide +kernel
theorem dX12_laysBack_50 : decode cX12_laysBack 50 = .ok (.sipush 625, 3) := by decide +kernel
theorem dX12_laysBack_53 : decode cX12_laysBack 53 = .ok (.if_icmp .ge 110, 3) := by decide +kernel
theorem dX12_laysBack_56 : decode cX12_laysBack 56 = .ok (.iconst 0, 1) := by decide +kernel
theorem dX12_laysBack_57 : decode cX12_laysBack 57 = .ok (.istore 5, 2) := by decide +kernel
theorem dX12_laysBack_59 : decode cX12_laysBack 59 = .ok (.aload_n 0, 1) := by decide +kernel
theorem dX12_laysBack_60 : decode cX12_laysBack 60 = .ok (.getfield 136, 3) := by decide +kernel
theorem dX12_laysBack_63 : decode cX12_laysBack 63 = .ok (.sipush 625, 3) := by decide +kernel
theorem dX12_laysBack_66 : decode cX12_laysBack 66 = .ok (.iload_n 3, 1) := by decide +kernel
theorem dX12_laysBack_67 : decode cX12_laysBack 67 = .ok (.iconst 2, 1) := by decide +kernel
theorem dX12_laysBack_68 : decode cX12_laysBack 68 = .ok (.irem, 1) := by decide +kernel
theorem dX12_laysBack_69 : decode cX12_laysBack 69 = .ok (.imul, 1) := by decide +kernel
theorem dX12_laysBack_70 : decode cX12_laysBack 70 = .ok (.iload 4, 2) := by decide +kernel
theorem dX12_laysBack_72 : decode cX12_laysBack 72 = .ok (.iadd, 1) := by decide +kernel
theorem dX12_laysBack_73 : decode cX12_laysBack 73 = .ok (.iaload, 1) := by decide +kernel
theorem dX12_laysBack_74 : decode cX12_laysBack 74 = .ok (.istore 6, 2) := by decide +kernel
theorem dX12_laysBack_76 : decode cX12_laysBack 76 = .ok (.iconst 1, 1) := by decide +kernel
theorem dX12_laysBack_77 : decode cX12_laysBack 77 = .ok (.istore 7, 2) := by decide +kernel
theorem dX12_laysBack_79 : decode cX12_laysBack 79 = .ok (.iload 7, 2) := by decide +kernel
theorem dX12_laysBack_81 : decode cX12_laysBack 81 = .ok (.bipush 24, 2) := by decide +kernel
theorem dX12_laysBack_83 : decode cX12_laysBack 83 = .ok (.if_icmp .gt 59, 3) := by decide +kernel
theorem dX12_laysBack_86 : decode cX12_laysBack 86 = .ok (.iload 6, 2) := by decide +kernel
theorem dX12_laysBack_88 : decode cX12_laysBack 88 = .ok (.ifCond .eq 54, 3) := by decide +kernel
theorem dX12_laysBack_91 : decode cX12_laysBack 91 = .ok (.iload 5, 2) := by decide +kernel
theorem dX12_laysBack_93 : decode cX12_laysBack 93 = .ok (.ifCond .ne 49, 3) := by decide +kernel
theorem dX12_laysBack_96 : decode cX12_laysBack 96 = .ok (.iload 6, 2) := by decide +kernel
theorem dX12_laysBack_98 : decode cX12_laysBack 98 = .ok (.iload 7, 2) := by decide +kernel
theorem dX12_laysBack_100 : decode cX12_laysBack 100 = .ok (.invokestatic 187, 3) := by decide +kernel
theorem dX12_laysBack_103 : decode cX12_laysBack 103 = .ok (.ifCond .eq 30, 3) := by decide +kernel
theorem dX12_laysBack_106 : decode cX12_laysBack 106 = .ok (.aload_n 0, 1) := by decide +kernel
theorem dX12_laysBack_107 : decode cX12_laysBack 107 = .ok (.getfield 139, 3) := by decide +kernel
theorem dX12_laysBack_110 : decode cX12_laysBack 110 = .ok (.sipush 625, 3) := by decide +kernel
theorem dX12_laysBack_113 : decode cX12_laysBack 113 = .ok (.iload_n 3, 1) := by decide +kernel
theorem dX12_laysBack_114 : decode cX12_laysBack 114 = .ok (.iconst 1, 1) := by decide +kernel
theorem dX12_laysBack_115 : decode cX12_laysBack 115 = .ok (.iadd, 1) := by decide +kernel
theorem dX12_laysBack_116 : decode cX12_laysBack 116 = .ok (.imul, 1) := by decide +kernel
theorem dX12_laysBack_117 : decode cX12_laysBack 117 = .ok (.iload 4, 2) := by decide +kernel
theorem dX12_laysBack_119 : decode cX12_laysBack 119 = .ok (.iload 7, 2) := by decide +kernel
theorem dX12_laysBack_121 : decode cX12_laysBack 121 = .ok (.invokestatic 419, 3) := by decide +kernel
theorem dX12_laysBack_124 : decode cX12_laysBack 124 = .ok (.iadd, 1) := by decide +kernel
theorem dX12_laysBack_125 : decode cX12_laysBack 125 = .ok (.baload, 1) := by decide +kernel
theorem dX12_laysBack_126 : decode cX12_laysBack 126 = .ok (.ifCond .eq 7, 3) := by decide +kernel
theorem dX12_laysBack_129 : decode cX12_laysBack 129 = .ok (.iconst 1, 1) := by decide +kernel
theorem dX12_laysBack_130 : decode cX12_laysBack 130 = .ok (.goto 4, 3) := by decide +kernel
theorem dX12_laysBack_133 : decode cX12_laysBack 133 = .ok (.iconst 0, 1) := by decide +kernel
theorem dX12_laysBack_134 : decode cX12_laysBack 134 = .ok (.istore 5, 2) := by decide +kernel
theorem dX12_laysBack_136 : decode cX12_laysBack 136 = .ok (.iinc 7 1, 3) := by decide +kernel
theorem dX12_laysBack_139 : decode cX12_laysBack 139 = .ok (.goto (-60), 3) := by decide +kernel
theorem dX12_laysBack_142 : decode cX12_laysBack 142 = .ok (.aload_n 0, 1) := by decide +kernel
theorem dX12_laysBack_143 : decode cX12_laysBack 143 = .ok (.getfield 139, 3) := by decide +kernel
theorem dX12_laysBack_146 : decode cX12_laysBack 146 = .ok (.sipush 625, 3) := by decide +kernel
theorem dX12_laysBack_149 : decode cX12_laysBack 149 = .ok (.iload_n 3, 1) := by decide +kernel
theorem dX12_laysBack_150 : decode cX12_laysBack 150 = .ok (.imul, 1) := by decide +kernel
theorem dX12_laysBack_151 : decode cX12_laysBack 151 = .ok (.iload 4, 2) := by decide +kernel
theorem dX12_laysBack_153 : decode cX12_laysBack 153 = .ok (.iadd, 1) := by decide +kernel
theorem dX12_laysBack_154 : decode cX12_laysBack 154 = .ok (.iload 5, 2) := by decide +kernel
theorem dX12_laysBack_156 : decode cX12_laysBack 156 = .ok (.bastore, 1) := by decide +kernel
theorem dX12_laysBack_157 : decode cX12_laysBack 157 = .ok (.iinc 4 1, 3) := by decide +kernel
theorem dX12_laysBack_160 : decode cX12_laysBack 160 = .ok (.goto (-112), 3) := by decide +kernel
theorem dX12_laysBack_163 : decode cX12_laysBack 163 = .ok (.iinc 3 (-1), 3) := by decide +kernel
theorem dX12_laysBack_166 : decode cX12_laysBack 166 = .ok (.goto (-125), 3) := by decide +kernel
theorem dX12_laysBack_169 : decode cX12_laysBack 169 = .ok (.return_, 1) := by decide +kernel
theorem dX12_keep_0 : decode cX12_keep 0 = .ok (.aload_n 0, 1) := by decide +kernel
theorem dX12_keep_1 : decode cX12_keep 1 = .ok (.iconst 1, 1) := by decide +kernel
theorem dX12_keep_2 : decode cX12_keep 2 = .ok (.putfield 501, 3) := by decide +kernel
theorem dX12_keep_5 : decode cX12_keep 5 = .ok (.aload_n 0, 1) := by decide +kernel
theorem dX12_keep_6 : decode cX12_keep 6 = .ok (.aload_n 0, 1) := by decide +kernel
theorem dX12_keep_7 : decode cX12_keep 7 = .ok (.getfield 386, 3) := by decide +kernel
theorem dX12_keep_10 : decode cX12_keep 10 = .ok (.putfield 504, 3) := by decide +kernel
theorem dX12_keep_13 : decode cX12_keep 13 = .ok (.aload_n 0, 1) := by decide +kernel
theorem dX12_keep_14 : decode cX12_keep 14 = .ok (.aload_n 0, 1) := by decide +kernel
theorem dX12_keep_15 : decode cX12_keep 15 = .ok (.getfield 13, 3) := by decide +kernel
theorem dX12_keep_18 : decode cX12_keep 18 = .ok (.putfield 507, 3) := by decide +kernel
theorem dX12_keep_21 : decode cX12_keep 21 = .ok (.iconst 0, 1) := by decide +kernel
theorem dX12_keep_22 : decode cX12_keep 22 = .ok (.istore_n 1, 1) := by decide +kernel
theorem dX12_keep_23 : decode cX12_keep 23 = .ok (.iload_n 1, 1) := by decide +kernel
theorem dX12_keep_24 : decode cX12_keep 24 = .ok (.aload_n 0, 1) := by decide +kernel
theorem dX12_keep_25 : decode cX12_keep 25 = .ok (.getfield 386, 3) := by decide +kernel
theorem dX12_keep_28 : decode cX12_keep 28 = .ok (.if_icmp .ge 45, 3) := by decide +kernel
theorem dX12_keep_31 : decode cX12_keep 31 = .ok (.aload_n 0, 1) := by decide +kernel
theorem dX12_keep_32 : decode cX12_keep 32 = .ok (.getfield 145, 3) := by decide +kernel
theorem dX12_keep_35 : decode cX12_keep 35 = .ok (.iload_n 1, 1) := by decide +kernel
theorem dX12_keep_36 : decode cX12_keep 36 = .ok (.aload_n 0, 1) := by decide +kernel
theorem dX12_keep_37 : decode cX12_keep 37 = .ok (.getfield 85, 3) := by decide +kernel
theorem dX12_keep_40 : decode cX12_keep 40 = .ok (.iload_n 1, 1) := by decide +kernel
theorem dX12_keep_41 : decode cX12_keep 41 = .ok (.iaload, 1) := by decide +kernel
theorem dX12_keep_42 : decode cX12_keep 42 = .ok (.iastore, 1) := by decide +kernel
theorem dX12_keep_43 : decode cX12_keep 43 = .ok (.aload_n 0, 1) := by decide +kernel
theorem dX12_keep_44 : decode cX12_keep 44 = .ok (.getfield 148, 3) := by decide +kernel
theorem dX12_keep_47 : decode cX12_keep 47 = .ok (.iload_n 1, 1) := by decide +kernel
theorem dX12_keep_48 : decode cX12_keep 48 = .ok (.aload_n 0, 1) := by decide +kernel
theorem dX12_keep_49 : decode cX12_keep 49 = .ok (.getfield 88, 3) := by decide +kernel
theorem dX12_keep_52 : decode cX12_keep 52 = .ok (.iload_n 1, 1) := by decide +kernel
theorem dX12_keep_53 : decode cX12_keep 53 = .ok (.iaload, 1) := by decide +kernel
theorem dX12_keep_54 : decode cX12_keep 54 = .ok (.iastore, 1) := by decide +kernel
theorem dX12_keep_55 : decode cX12_keep 55 = .ok (.aload_n 0, 1) := by decide +kernel
theorem dX12_keep_56 : decode cX12_keep 56 = .ok (.getfield 151, 3) := by decide +kernel
theorem dX12_keep_59 : decode cX12_keep 59 = .ok (.iload_n 1, 1) := by decide +kernel
theorem dX12_keep_60 : decode cX12_keep 60 = .ok (.aload_n 0, 1) := by decide +kernel
theorem dX12_keep_61 : decode cX12_keep 61 = .ok (.getfield 91, 3) := by decide +kernel
theorem dX12_keep_64 : decode cX12_keep 64 = .ok (.iload_n 1, 1) := by decide +kernel
theorem dX12_keep_65 : decode cX12_keep 65 = .ok (.iaload, 1) := by decide +kernel
theorem dX12_keep_66 : decode cX12_keep 66 = .ok (.iastore, 1) := by decide +kernel
theorem dX12_keep_67 : decode cX12_keep 67 = .ok (.iinc 1 1, 3) := by decide +kernel
theorem dX12_keep_70 : decode cX12_keep 70 = .ok (.goto (-47), 3) := by decide +kernel
theorem dX12_keep_73 : decode cX12_keep 73 = .ok (.iconst 0, 1) := by decide +kernel
theorem dX12_keep_74 : decode cX12_keep 74 = .ok (.istore_n 1, 1) := by decide +kernel
theorem dX12_keep_75 : decode cX12_keep 75 = .ok (.iload_n 1, 1) := by decide +kernel
theorem dX12_keep_76 : decode cX12_keep 76 = .ok (.bipush 6, 2) := by decide +kernel
theorem dX12_keep_78 : decode cX12_keep 78 = .ok (.if_icmp .ge 21, 3) := by decide +kernel
theorem dX12_keep_81 : decode cX12_keep 81 = .ok (.aload_n 0, 1) := by decide +kernel
theorem dX12_keep_82 : decode cX12_keep 82 = .ok (.getfield 154, 3) := by decide +kernel
theorem dX12_keep_85 : decode cX12_keep 85 = .ok (.iload_n 1, 1) := by decide +kernel
theorem dX12_keep_86 : decode cX12_keep 86 = .ok (.aload_n 0, 1) := by decide +kernel
theorem dX12_keep_87 : decode cX12_keep 87 = .ok (.getfield 76, 3) := by decide +kernel
theorem dX12_keep_90 : decode cX12_keep 90 = .ok (.iload_n 1, 1) := by decide +kernel
theorem dX12_keep_91 : decode cX12_keep 91 = .ok (.iaload, 1) := by decide +kernel
theorem dX12_keep_92 : decode cX12_keep 92 = .ok (.iastore, 1) := by decide +kernel
theorem dX12_keep_93 : decode cX12_keep 93 = .ok (.iinc 1 1, 3) := by decide +kernel
theorem dX12_keep_96 : decode cX12_keep 96 = .ok (.goto (-21), 3) := by decide +kernel
theorem dX12_keep_99 : decode cX12_keep 99 = .ok (.aload_n 0, 1) := by decide +kernel
theorem dX12_keep_100 : decode cX12_keep 100 = .ok (.getfield 386, 3) := by decide +kernel
theorem dX12_keep_103 : decode cX12_keep 103 = .ok (.ireturn, 1) := by decide +kernel
theorem dX12_numberAt_0 : decode cX12_numberAt 0 = .ok (.iconst 0, 1) := by decide +kernel
theorem dX12_numberAt_1 : decode cX12_numberAt 1 = .ok (.istore_n 2, 1) := by decide +kernel
theorem dX12_numberAt_2 : decode cX12_numberAt 2 = .ok (.iconst 0, 1) := by decide +kernel
theorem dX12_numberAt_3 : decode cX12_numberAt 3 = .ok (.istore_n 3, 1) := by decide +kernel
theorem dX12_numberAt_4 : decode cX12_numberAt 4 = .ok (.iload_n 3, 1) := by decide +kernel
theorem dX12_numberAt_5 : decode cX12_numberAt 5 = .ok (.iconst 4, 1) := by decide +kernel
theorem dX12_numberAt_6 : decode cX12_numberAt 6 = .ok (.if_icmp .ge 29, 3) := by decide +kernel
theorem dX12_numberAt_9 : decode cX12_numberAt 9 = .ok (.iload_n 2, 1) := by decide +kernel
theorem dX12_numberAt_10 : decode cX12_numberAt 10 = .ok (.bipush 8, 2) := by decide +kernel
theorem dX12_numberAt_12 : decode cX12_numberAt 12 = .ok (.ishl, 1) := by decide +kernel
theorem dX12_numberAt_13 : decode cX12_numberAt 13 = .ok (.aload_n 0, 1) := by decide +kernel
theorem dX12_numberAt_14 : decode cX12_numberAt 14 = .ok (.getfield 7, 3) := by decide +kernel
theorem dX12_numberAt_17 : decode cX12_numberAt 17 = .ok (.iconst 4, 1) := by decide +kernel
theorem dX12_numberAt_18 : decode cX12_numberAt 18 = .ok (.iload_n 1, 1) := by decide +kernel
theorem dX12_numberAt_19 : decode cX12_numberAt 19 = .ok (.imul, 1) := by decide +kernel
theorem dX12_numberAt_20 : decode cX12_numberAt 20 = .ok (.iload_n 3, 1) := by decide +kernel
theorem dX12_numberAt_21 : decode cX12_numberAt 21 = .ok (.iadd, 1) := by decide +kernel
theorem dX12_numberAt_22 : decode cX12_numberAt 22 = .ok (.baload, 1) := by decide +kernel
theorem dX12_numberAt_23 : decode cX12_numberAt 23 = .ok (.sipush 255, 3) := by decide +kernel
theorem dX12_numberAt_26 : decode cX12_numberAt 26 = .ok (.iand, 1) := by decide +kernel
theorem dX12_numberAt_27 : decode cX12_numberAt 27 = .ok (.ior, 1) := by decide +kernel
theorem dX12_numberAt_28 : decode cX12_numberAt 28 = .ok (.istore_n 2, 1) := by decide +kernel
theorem dX12_numberAt_29 : decode cX12_numberAt 29 = .ok (.iinc 3 1, 3) := by decide +kernel
theorem dX12_numberAt_32 : decode cX12_numberAt 32 = .ok (.goto (-28), 3) := by decide +kernel
theorem dX12_numberAt_35 : decode cX12_numberAt 35 = .ok (.iload_n 2, 1) := by decide +kernel
theorem dX12_numberAt_36 : decode cX12_numberAt 36 = .ok (.ireturn, 1) := by decide +kernel
