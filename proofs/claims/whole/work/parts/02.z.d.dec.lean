/-! decode rows -/
theorem dX11_init_0 : decode cX11_init 0 = .ok (.aload_n 0, 1) := by decide +kernel
theorem dX11_init_1 : decode cX11_init 1 = .ok (.invokespecial 7, 3) := by decide +kernel
theorem dX11_init_4 : decode cX11_init 4 = .ok (.aload_n 0, 1) := by decide +kernel
theorem dX11_init_5 : decode cX11_init 5 = .ok (.sipush 2000, 3) := by decide +kernel
theorem dX11_init_8 : decode cX11_init 8 = .ok (.newarray .byte, 2) := by decide +kernel
theorem dX11_init_10 : decode cX11_init 10 = .ok (.putfield 13, 3) := by decide +kernel
theorem dX11_init_13 : decode cX11_init 13 = .ok (.aload_n 0, 1) := by decide +kernel
theorem dX11_init_14 : decode cX11_init 14 = .ok (.sipush 2000, 3) := by decide +kernel
theorem dX11_init_17 : decode cX11_init 17 = .ok (.newarray .byte, 2) := by decide +kernel
theorem dX11_init_19 : decode cX11_init 19 = .ok (.putfield 17, 3) := by decide +kernel
theorem dX11_init_22 : decode cX11_init 22 = .ok (.aload_n 0, 1) := by decide +kernel
theorem dX11_init_23 : decode cX11_init 23 = .ok (.sipush 403, 3) := by decide +kernel
theorem dX11_init_26 : decode cX11_init 26 = .ok (.newarray .int, 2) := by decide +kernel
theorem dX11_init_28 : decode cX11_init 28 = .ok (.putfield 20, 3) := by decide +kernel
theorem dX11_init_31 : decode cX11_init 31 = .ok (.aload_n 0, 1) := by decide +kernel
theorem dX11_init_32 : decode cX11_init 32 = .ok (.sipush 403, 3) := by decide +kernel
theorem dX11_init_35 : decode cX11_init 35 = .ok (.newarray .int, 2) := by decide +kernel
theorem dX11_init_37 : decode cX11_init 37 = .ok (.putfield 24, 3) := by decide +kernel
theorem dX11_init_40 : decode cX11_init 40 = .ok (.aload_n 0, 1) := by decide +kernel
theorem dX11_init_41 : decode cX11_init 41 = .ok (.sipush 403, 3) := by decide +kernel
theorem dX11_init_44 : decode cX11_init 44 = .ok (.newarray .int, 2) := by decide +kernel
theorem dX11_init_46 : decode cX11_init 46 = .ok (.putfield 27, 3) := by decide +kernel
theorem dX11_init_49 : decode cX11_init 49 = .ok (.aload_n 0, 1) := by decide +kernel
theorem dX11_init_50 : decode cX11_init 50 = .ok (.sipush 403, 3) := by decide +kernel
theorem dX11_init_53 : decode cX11_init 53 = .ok (.newarray .long, 2) := by decide +kernel
theorem dX11_init_55 : decode cX11_init 55 = .ok (.putfield 30, 3) := by decide +kernel
theorem dX11_init_58 : decode cX11_init 58 = .ok (.aload_n 0, 1) := by decide +kernel
theorem dX11_init_59 : decode cX11_init 59 = .ok (.bipush 26, 2) := by decide +kernel
theorem dX11_init_61 : decode cX11_init 61 = .ok (.newarray .long, 2) := by decide +kernel
theorem dX11_init_63 : decode cX11_init 63 = .ok (.putfield 34, 3) := by decide +kernel
theorem dX11_init_66 : decode cX11_init 66 = .ok (.aload_n 0, 1) := by decide +kernel
theorem dX11_init_67 : decode cX11_init 67 = .ok (.iconst (-1), 1) := by decide +kernel
theorem dX11_init_68 : decode cX11_init 68 = .ok (.putfield 37, 3) := by decide +kernel
theorem dX11_init_71 : decode cX11_init 71 = .ok (.aload_n 0, 1) := by decide +kernel
theorem dX11_init_72 : decode cX11_init 72 = .ok (.bipush 23, 2) := by decide +kernel
theorem dX11_init_74 : decode cX11_init 74 = .ok (.newarray .long, 2) := by decide +kernel
theorem dX11_init_76 : decode cX11_init 76 = .ok (.putfield 40, 3) := by decide +kernel
theorem dX11_init_79 : decode cX11_init 79 = .ok (.aload_n 0, 1) := by decide +kernel
theorem dX11_init_80 : decode cX11_init 80 = .ok (.bipush 23, 2) := by decide +kernel
theorem dX11_init_82 : decode cX11_init 82 = .ok (.newarray .int, 2) := by decide +kernel
theorem dX11_init_84 : decode cX11_init 84 = .ok (.putfield 43, 3) := by decide +kernel
theorem dX11_init_87 : decode cX11_init 87 = .ok (.aload_n 0, 1) := by decide +kernel
theorem dX11_init_88 : decode cX11_init 88 = .ok (.iconst 2, 1) := by decide +kernel
theorem dX11_init_89 : decode cX11_init 89 = .ok (.newarray .int, 2) := by decide +kernel
theorem dX11_init_91 : decode cX11_init 91 = .ok (.putfield 46, 3) := by decide +kernel
theorem dX11_init_94 : decode cX11_init 94 = .ok (.aload_n 0, 1) := by decide +kernel
theorem dX11_init_95 : decode cX11_init 95 = .ok (.iconst 2, 1) := by decide +kernel
theorem dX11_init_96 : decode cX11_init 96 = .ok (.newarray .int, 2) := by decide +kernel
theorem dX11_init_98 : decode cX11_init 98 = .ok (.putfield 49, 3) := by decide +kernel
theorem dX11_init_101 : decode cX11_init 101 = .ok (.aload_n 0, 1) := by decide +kernel
theorem dX11_init_102 : decode cX11_init 102 = .ok (.bipush 14, 2) := by decide +kernel
theorem dX11_init_104 : decode cX11_init 104 = .ok (.newarray .int, 2) := by decide +kernel
theorem dX11_init_106 : decode cX11_init 106 = .ok (.putfield 52, 3) := by decide +kernel
theorem dX11_init_109 : decode cX11_init 109 = .ok (.aload_n 0, 1) := by decide +kernel
theorem dX11_init_110 : decode cX11_init 110 = .ok (.bipush 14, 2) := by decide +kernel
theorem dX11_init_112 : decode cX11_init 112 = .ok (.newarray .int, 2) := by decide +kernel
theorem dX11_init_114 : decode cX11_init 114 = .ok (.putfield 55, 3) := by decide +kernel
theorem dX11_init_117 : decode cX11_init 117 = .ok (.aload_n 0, 1) := by decide +kernel
theorem dX11_init_118 : decode cX11_init 118 = .ok (.iconst 2, 1) := by decide +kernel
theorem dX11_init_119 : decode cX11_init 119 = .ok (.newarray .int, 2) := by decide +kernel
theorem dX11_init_121 : decode cX11_init 121 = .ok (.putfield 58, 3) := by decide +kernel
theorem dX11_init_124 : decode cX11_init 124 = .ok (.aload_n 0, 1) := by decide +kernel
theorem dX11_init_125 : decode cX11_init 125 = .ok (.bipush 8, 2) := by decide +kernel
theorem dX11_init_127 : decode cX11_init 127 = .ok (.newarray .int, 2) := by decide +kernel
theorem dX11_init_129 : decode cX11_init 129 = .ok (.putfield 61, 3) := by decide +kernel
theorem dX11_init_132 : decode cX11_init 132 = .ok (.aload_n 0, 1) := by decide +kernel
theorem dX11_init_133 : decode cX11_init 133 = .ok (.bipush 8, 2) := by decide +kernel
theorem dX11_init_135 : decode cX11_init 135 = .ok (.newarray .int, 2) := by decide +kernel
theorem dX11_init_137 : decode cX11_init 137 = .ok (.putfield 64, 3) := by decide +kernel
theorem dX11_init_140 : decode cX11_init 140 = .ok (.aload_n 0, 1) := by decide +kernel
theorem dX11_init_141 : decode cX11_init 141 = .ok (.bipush 8, 2) := by decide +kernel
theorem dX11_init_143 : decode cX11_init 143 = .ok (.newarray .int, 2) := by decide +kernel
theorem dX11_init_145 : decode cX11_init 145 = .ok (.putfield 67, 3) := by decide +kernel
theorem dX11_init_148 : decode cX11_init 148 = .ok (.aload_n 0, 1) := by decide +kernel
theorem dX11_init_149 : decode cX11_init 149 = .ok (.iconst 2, 1) := by decide +kernel
theorem dX11_init_150 : decode cX11_init 150 = .ok (.newarray .int, 2) := by decide +kernel
theorem dX11_init_152 : decode cX11_init 152 = .ok (.putfield 70, 3) := by decide +kernel
theorem dX11_init_155 : decode cX11_init 155 = .ok (.aload_n 0, 1) := by decide +kernel
theorem dX11_init_156 : decode cX11_init 156 = .ok (.bipush 8, 2) := by decide +kernel
theorem dX11_init_158 : decode cX11_init 158 = .ok (.newarray .int, 2) := by decide +kernel
theorem dX11_init_160 : decode cX11_init 160 = .ok (.putfield 73, 3) := by decide +kernel
theorem dX11_init_163 : decode cX11_init 163 = .ok (.aload_n 0, 1) := by decide +kernel
theorem dX11_init_164 : decode cX11_init 164 = .ok (.bipush 8, 2) := by decide +kernel
theorem dX11_init_166 : decode cX11_init 166 = .ok (.newarray .int, 2) := by decide +kernel
theorem dX11_init_168 : decode cX11_init 168 = .ok (.putfield 76, 3) := by decide +kernel
theorem dX11_init_171 : decode cX11_init 171 = .ok (.aload_n 0, 1) := by decide +kernel
theorem dX11_init_172 : decode cX11_init 172 = .ok (.bipush 8, 2) := by decide +kernel
theorem dX11_init_174 : decode cX11_init 174 = .ok (.newarray .int, 2) := by decide +kernel
theorem dX11_init_176 : decode cX11_init 176 = .ok (.putfield 79, 3) := by decide +kernel
theorem dX11_init_179 : decode cX11_init 179 = .ok (.aload_n 0, 1) := by decide +kernel
theorem dX11_init_180 : decode cX11_init 180 = .ok (.bipush 8, 2) := by decide +kernel
theorem dX11_init_182 : decode cX11_init 182 = .ok (.newarray .int, 2) := by decide +kernel
theorem dX11_init_184 : decode cX11_init 184 = .ok (.putfield 82, 3) := by decide +kernel
theorem dX11_init_187 : decode cX11_init 187 = .ok (.aload_n 0, 1) := by decide +kernel
theorem dX11_init_188 : decode cX11_init 188 = .ok (.sipush 840, 3) := by decide +kernel
theorem dX11_init_191 : decode cX11_init 191 = .ok (.newarray .int, 2) := by decide +kernel
theorem dX11_init_193 : decode cX11_init 193 = .ok (.putfield 85, 3) := by decide +kernel
theorem dX11_init_196 : decode cX11_init 196 = .ok (.aload_n 0, 1) := by decide +kernel
theorem dX11_init_197 : decode cX11_init 197 = .ok (.iconst 2, 1) := by decide +kernel
theorem dX11_init_198 : decode cX11_init 198 = .ok (.newarray .int, 2) := by decide +kernel
theorem dX11_init_200 : decode cX11_init 200 = .ok (.putfield 88, 3) := by decide +kernel
theorem dX11_init_203 : decode cX11_init 203 = .ok (.aload_n 0, 1) := by decide +kernel
theorem dX11_init_204 : decode cX11_init 204 = .ok (.iconst 2, 1) := by decide +kernel
theorem dX11_init_205 : decode cX11_init 205 = .ok (.newarray .int, 2) := by decide +kernel
theorem dX11_init_207 : decode cX11_init 207 = .ok (.putfield 91, 3) := by decide +kernel
theorem dX11_init_210 : decode cX11_init 210 = .ok (.aload_n 0, 1) := by decide +kernel
theorem dX11_init_211 : decode cX11_init 211 = .ok (.bipush 6, 2) := by decide +kernel
theorem dX11_init_213 : decode cX11_init 213 = .ok (.newarray .int, 2) := by decide +kernel
theorem dX11_init_215 : decode cX11_init 215 = .ok (.putfield 94, 3) := by decide +kernel
theorem dX11_init_218 : decode cX11_init 218 = .ok (.aload_n 0, 1) := by decide +kernel
theorem dX11_init_219 : decode cX11_init 219 = .ok (.bipush 6, 2) := by decide +kernel
theorem dX11_init_221 : decode cX11_init 221 = .ok (.newarray .int, 2) := by decide +kernel
theorem dX11_init_223 : decode cX11_init 223 = .ok (.putfield 97, 3) := by decide +kernel
theorem dX11_init_226 : decode cX11_init 226 = .ok (.aload_n 0, 1) := by decide +kernel
theorem dX11_init_227 : decode cX11_init 227 = .ok (.sipush 260, 3) := by decide +kernel
theorem dX11_init_230 : decode cX11_init 230 = .ok (.newarray .boolean, 2) := by decide +kernel
theorem dX11_init_232 : decode cX11_init 232 = .ok (.putfield 100, 3) := by decide +kernel
theorem dX11_init_235 : decode cX11_init 235 = .ok (.aload_n 0, 1) := by decide +kernel
theorem dX11_init_236 : decode cX11_init 236 = .ok (.sipush 260, 3) := by decide +kernel
theorem dX11_init_239 : decode cX11_init 239 = .ok (.newarray .int, 2) := by decide +kernel
theorem dX11_init_241 : decode cX11_init 241 = .ok (.putfield 104, 3) := by decide +kernel
theorem dX11_init_244 : decode cX11_init 244 = .ok (.aload_n 0, 1) := by decide +kernel
theorem dX11_init_245 : decode cX11_init 245 = .ok (.sipush 260, 3) := by decide +kernel
theorem dX11_init_248 : decode cX11_init 248 = .ok (.newarray .int, 2) := by decide +kernel
theorem dX11_init_250 : decode cX11_init 250 = .ok (.putfield 107, 3) := by decide +kernel
theorem dX11_init_253 : decode cX11_init 253 = .ok (.aload_n 0, 1) := by decide +kernel
theorem dX11_init_254 : decode cX11_init 254 = .ok (.sipush 260, 3) := by decide +kernel
theorem dX11_init_257 : decode cX11_init 257 = .ok (.newarray .int, 2) := by decide +kernel
theorem dX11_init_259 : decode cX11_init 259 = .ok (.putfield 110, 3) := by decide +kernel
theorem dX11_init_262 : decode cX11_init 262 = .ok (.aload_n 0, 1) := by decide +kernel
theorem dX11_init_263 : decode cX11_init 263 = .ok (.sipush 260, 3) := by decide +kernel
theorem dX11_init_266 : decode cX11_init 266 = .ok (.newarray .int, 2) := by decide +kernel
theorem dX11_init_268 : decode cX11_init 268 = .ok (.putfield 113, 3) := by decide +kernel
theorem dX11_init_271 : decode cX11_init 271 = .ok (.aload_n 0, 1) := by decide +kernel
theorem dX11_init_272 : decode cX11_init 272 = .ok (.sipush 840, 3) := by decide +kernel
theorem dX11_init_275 : decode cX11_init 275 = .ok (.newarray .int, 2) := by decide +kernel
theorem dX11_init_277 : decode cX11_init 277 = .ok (.putfield 116, 3) := by decide +kernel
theorem dX11_init_280 : decode cX11_init 280 = .ok (.aload_n 0, 1) := by decide +kernel
theorem dX11_init_281 : decode cX11_init 281 = .ok (.sipush 840, 3) := by decide +kernel
theorem dX11_init_284 : decode cX11_init 284 = .ok (.newarray .int, 2) := by decide +kernel
theorem dX11_init_286 : decode cX11_init 286 = .ok (.putfield 119, 3) := by decide +kernel
theorem dX11_init_289 : decode cX11_init 289 = .ok (.aload_n 0, 1) := by decide +kernel
theorem dX11_init_290 : decode cX11_init 290 = .ok (.bipush 80, 2) := by decide +kernel
theorem dX11_init_292 : decode cX11_init 292 = .ok (.newarray .int, 2) := by decide +kernel
theorem dX11_init_294 : decode cX11_init 294 = .ok (.putfield 122, 3) := by decide +kernel
theorem dX11_init_297 : decode cX11_init 297 = .ok (.aload_n 0, 1) := by decide +kernel
theorem dX11_init_298 : decode cX11_init 298 = .ok (.bipush 64, 2) := by decide +kernel
theorem dX11_init_300 : decode cX11_init 300 = .ok (.newarray .int, 2) := by decide +kernel
theorem dX11_init_302 : decode cX11_init 302 = .ok (.putfield 125, 3) := by decide +kernel
theorem dX11_init_305 : decode cX11_init 305 = .ok (.aload_n 0, 1) := by decide +kernel
theorem dX11_init_306 : decode cX11_init 306 = .ok (.bipush 9, 2) := by decide +kernel
theorem dX11_init_308 : decode cX11_init 308 = .ok (.newarray .int, 2) := by decide +kernel
theorem dX11_init_310 : decode cX11_init 310 = .ok (.putfield 128, 3) := by decide +kernel
theorem dX11_init_313 : decode cX11_init 313 = .ok (.aload_n 0, 1) := by decide +kernel
theorem dX11_init_314 : decode cX11_init 314 = .ok (.sipush 400, 3) := by decide +kernel
theorem dX11_init_317 : decode cX11_init 317 = .ok (.newarray .int, 2) := by decide +kernel
theorem dX11_init_319 : decode cX11_init 319 = .ok (.putfield 131, 3) := by decide +kernel
theorem dX11_init_322 : decode cX11_init 322 = .ok (.aload_n 0, 1) := by decide +kernel
theorem dX11_init_323 : decode cX11_init 323 = .ok (.bipush 26, 2) := by decide +kernel
theorem dX11_init_325 : decode cX11_init 325 = .ok (.newarray .int, 2) := by decide +kernel
theorem dX11_init_327 : decode cX11_init 327 = .ok (.putfield 134, 3) := by decide +kernel
theorem dX11_init_330 : decode cX11_init 330 = .ok (.aload_n 0, 1) := by decide +kernel
theorem dX11_init_331 : decode cX11_init 331 = .ok (.bipush 26, 2) := by decide +kernel
theorem dX11_init_333 : decode cX11_init 333 = .ok (.newarray .int, 2) := by decide +kernel
theorem dX11_init_335 : decode cX11_init 335 = .ok (.putfield 137, 3) := by decide +kernel
theorem dX11_init_338 : decode cX11_init 338 = .ok (.aload_n 0, 1) := by decide +kernel
theorem dX11_init_339 : decode cX11_init 339 = .ok (.bipush 60, 2) := by decide +kernel
theorem dX11_init_341 : decode cX11_init 341 = .ok (.newarray .boolean, 2) := by decide +kernel
theorem dX11_init_343 : decode cX11_init 343 = .ok (.putfield 140, 3) := by decide +kernel
theorem dX11_init_346 : decode cX11_init 346 = .ok (.aload_n 0, 1) := by decide +kernel
theorem dX11_init_347 : decode cX11_init 347 = .ok (.iconst 4, 1) := by decide +kernel
theorem dX11_init_348 : decode cX11_init 348 = .ok (.newarray .int, 2) := by decide +kernel
theorem dX11_init_350 : decode cX11_init 350 = .ok (.putfield 143, 3) := by decide +kernel
theorem dX11_init_353 : decode cX11_init 353 = .ok (.aload_n 0, 1) := by decide +kernel
theorem dX11_init_354 : decode cX11_init 354 = .ok (.sipush 1040, 3) := by decide +kernel
theorem dX11_init_357 : decode cX11_init 357 = .ok (.newarray .int, 2) := by decide +kernel
theorem dX11_init_359 : decode cX11_init 359 = .ok (.putfield 146, 3) := by decide +kernel
theorem dX11_init_362 : decode cX11_init 362 = .ok (.aload_n 0, 1) := by decide +kernel
theorem dX11_init_363 : decode cX11_init 363 = .ok (.bipush 35, 2) := by decide +kernel
theorem dX11_init_365 : decode cX11_init 365 = .ok (.newarray .int, 2) := by decide +kernel
theorem dX11_init_367 : decode cX11_init 367 = .ok (.putfield 149, 3) := by decide +kernel
theorem dX11_init_370 : decode cX11_init 370 = .ok (.aload_n 0, 1) := by decide +kernel
theorem dX11_init_371 : decode cX11_init 371 = .ok (.iconst 4, 1) := by decide +kernel
theorem dX11_init_372 : decode cX11_init 372 = .ok (.newarray .int, 2) := by decide +kernel
theorem dX11_init_374 : decode cX11_init 374 = .ok (.putfield 152, 3) := by decide +kernel
theorem dX11_init_377 : decode cX11_init 377 = .ok (.aload_n 0, 1) := by decide +kernel
theorem dX11_init_378 : decode cX11_init 378 = .ok (.iconst 4, 1) := by decide +kernel
theorem dX11_init_379 : decode cX11_init 379 = .ok (.newarray .int, 2) := by decide +kernel
theorem dX11_init_381 : decode cX11_init 381 = .ok (.putfield 155, 3) := by decide +kernel
theorem dX11_init_384 : decode cX11_init 384 = .ok (.aload_n 0, 1) := by decide +kernel
theorem dX11_init_385 : decode cX11_init 385 = .ok (.iconst 4, 1) := by decide +kernel
theorem dX11_init_386 : decode cX11_init 386 = .ok (.newarray .int, 2) := by decide +kernel
theorem dX11_init_388 : decode cX11_init 388 = .ok (.putfield 158, 3) := by decide +kernel
theorem dX11_init_391 : decode cX11_init 391 = .ok (.aload_n 0, 1) := by decide +kernel
theorem dX11_init_392 : decode cX11_init 392 = .ok (.iconst 4, 1) := by decide +kernel
theorem dX11_init_393 : decode cX11_init 393 = .ok (.newarray .int, 2) := by decide +kernel
theorem dX11_init_395 : decode cX11_init 395 = .ok (.putfield 161, 3) := by decide +kernel
theorem dX11_init_398 : decode cX11_init 398 = .ok (.aload_n 0, 1) := by decide +kernel
theorem dX11_init_399 : decode cX11_init 399 = .ok (.bipush 20, 2) := by decide +kernel
theorem dX11_init_401 : decode cX11_init 401 = .ok (.newarray .int, 2) := by decide +kernel
theorem dX11_init_403 : decode cX11_init 403 = .ok (.putfield 164, 3) := by decide +kernel
theorem dX11_init_406 : decode cX11_init 406 = .ok (.aload_n 0, 1) := by decide +kernel
theorem dX11_init_407 : decode cX11_init 407 = .ok (.bipush 20, 2) := by decide +kernel
theorem dX11_init_409 : decode cX11_init 409 = .ok (.newarray .boolean, 2) := by decide +kernel
theorem dX11_init_411 : decode cX11_init 411 = .ok (.putfield 167, 3) := by decide +kernel
theorem dX11_init_414 : decode cX11_init 414 = .ok (.aload_n 0, 1) := by decide +kernel
theorem dX11_init_415 : decode cX11_init 415 = .ok (.iconst 3, 1) := by decide +kernel
theorem dX11_init_416 : decode cX11_init 416 = .ok (.newarray .boolean, 2) := by decide +kernel
theorem dX11_init_418 : decode cX11_init 418 = .ok (.putfield 170, 3) := by decide +kernel
theorem dX11_init_421 : decode cX11_init 421 = .ok (.aload_n 0, 1) := by decide +kernel
theorem dX11_init_422 : decode cX11_init 422 = .ok (.bipush 78, 2) := by decide +kernel
theorem dX11_init_424 : decode cX11_init 424 = .ok (.newarray .int, 2) := by decide +kernel
theorem dX11_init_426 : decode cX11_init 426 = .ok (.putfield 173, 3) := by decide +kernel
theorem dX11_init_429 : decode cX11_init 429 = .ok (.aload_n 0, 1) := by decide +kernel
theorem dX11_init_430 : decode cX11_init 430 = .ok (.iconst 0, 1) := by decide +kernel
theorem dX11_init_431 : decode cX11_init 431 = .ok (.invokevirtual 176, 3) := by decide +kernel
theorem dX11_init_434 : decode cX11_init 434 = .ok (.aload_n 0, 1) := by decide +kernel
theorem dX11_init_435 : decode cX11_init 435 = .ok (.getfield 34, 3) := by decide +kernel
theorem dX11_init_438 : decode cX11_init 438 = .ok (.iconst 0, 1) := by decide +kernel
theorem dX11_init_439 : decode cX11_init 439 = .ok (.bipush 116, 2) := by decide +kernel
theorem dX11_init_441 : decode cX11_init 441 = .ok (.bipush 114, 2) := by decide +kernel
theorem dX11_init_443 : decode cX11_init 443 = .ok (.bipush 97, 2) := by decide +kernel
theorem dX11_init_445 : decode cX11_init 445 = .ok (.bipush 105, 2) := by decide +kernel
theorem dX11_init_447 : decode cX11_init 447 = .ok (.bipush 116, 2) := by decide +kernel
theorem dX11_init_449 : decode cX11_init 449 = .ok (.iconst 0, 1) := by decide +kernel
theorem dX11_init_450 : decode cX11_init 450 = .ok (.iconst 0, 1) := by decide +kernel
theorem dX11_init_451 : decode cX11_init 451 = .ok (.invokestatic 180, 3) := by decide +kernel
theorem dX11_init_454 : decode cX11_init 454 = .ok (.lastore, 1) := by decide +kernel
theorem dX11_init_455 : decode cX11_init 455 = .ok (.aload_n 0, 1) := by decide +kernel
theorem dX11_init_456 : decode cX11_init 456 = .ok (.getfield 34, 3) := by decide +kernel
theorem dX11_init_459 : decode cX11_init 459 = .ok (.iconst 1, 1) := by decide +kernel
theorem dX11_init_460 : decode cX11_init 460 = .ok (.bipush 98, 2) := by decide +kernel
theorem dX11_init_462 : decode cX11_init 462 = .ok (.bipush 101, 2) := by decide +kernel
theorem dX11_init_464 : decode cX11_init 464 = .ok (.bipush 105, 2) := by decide +kernel
theorem dX11_init_466 : decode cX11_init 466 = .ok (.bipush 110, 2) := by decide +kernel
theorem dX11_init_468 : decode cX11_init 468 = .ok (.bipush 103, 2) := by decide +kernel
theorem dX11_init_470 : decode cX11_init 470 = .ok (.iconst 0, 1) := by decide +kernel
theorem dX11_init_471 : decode cX11_init 471 = .ok (.iconst 0, 1) := by decide +kernel
theorem dX11_init_472 : decode cX11_init 472 = .ok (.invokestatic 180, 3) := by decide +kernel
theorem dX11_init_475 : decode cX11_init 475 = .ok (.lastore, 1) := by decide +kernel
theorem dX11_init_476 : decode cX11_init 476 = .ok (.aload_n 0, 1) := by decide +kernel
theorem dX11_init_477 : decode cX11_init 477 = .ok (.getfield 34, 3) := by decide +kernel
theorem dX11_init_480 : decode cX11_init 480 = .ok (.iconst 2, 1) := by decide +kernel
theorem dX11_init_481 : decode cX11_init 481 = .ok (.bipush 119, 2) := by decide +kernel
theorem dX11_init_483 : decode cX11_init 483 = .ok (.bipush 97, 2) := by decide +kernel
theorem dX11_init_485 : decode cX11_init 485 = .ok (.bipush 121, 2) := by decide +kernel
theorem dX11_init_487 : decode cX11_init 487 = .ok (.iconst 0, 1) := by decide +kernel
theorem dX11_init_488 : decode cX11_init 488 = .ok (.iconst 0, 1) := by decide +kernel
theorem dX11_init_489 : decode cX11_init 489 = .ok (.iconst 0, 1) := by decide +kernel
theorem dX11_init_490 : decode cX11_init 490 = .ok (.iconst 0, 1) := by decide +kernel
theorem dX11_init_491 : decode cX11_init 491 = .ok (.invokestatic 180, 3) := by decide +kernel
theorem dX11_init_494 : decode cX11_init 494 = .ok (.lastore, 1) := by decide +kernel
theorem dX11_init_495 : decode cX11_init 495 = .ok (.aload_n 0, 1) := by decide +kernel
theorem dX11_init_496 : decode cX11_init 496 = .ok (.getfield 34, 3) := by decide +kernel
theorem dX11_init_499 : decode cX11_init 499 = .ok (.iconst 3, 1) := by decide +kernel
theorem dX11_init_500 : decode cX11_init 500 = .ok (.bipush 98, 2) := by decide +kernel
theorem dX11_init_502 : decode cX11_init 502 = .ok (.bipush 114, 2) := by decide +kernel
theorem dX11_init_504 : decode cX11_init 504 = .ok (.bipush 105, 2) := by decide +kernel
theorem dX11_init_506 : decode cX11_init 506 = .ok (.bipush 100, 2) := by decide +kernel
theorem dX11_init_508 : decode cX11_init 508 = .ok (.bipush 103, 2) := by decide +kernel
theorem dX11_init_510 : decode cX11_init 510 = .ok (.bipush 101, 2) := by decide +kernel
theorem dX11_init_512 : decode cX11_init 512 = .ok (.iconst 0, 1) := by decide +kernel
theorem dX11_init_513 : decode cX11_init 513 = .ok (.invokestatic 180, 3) := by decide +kernel
theorem dX11_init_516 : decode cX11_init 516 = .ok (.lastore, 1) := by decide +kernel
theorem dX11_init_517 : decode cX11_init 517 = .ok (.aload_n 0, 1) := by decide +kernel
theorem dX11_init_518 : decode cX11_init 518 = .ok (.getfield 34, 3) := by decide +kernel
theorem dX11_init_521 : decode cX11_init 521 = .ok (.iconst 4, 1) := by decide +kernel
theorem dX11_init_522 : decode cX11_init 522 = .ok (.bipush 103, 2) := by decide +kernel
theorem dX11_init_524 : decode cX11_init 524 = .ok (.bipush 105, 2) := by decide +kernel
theorem dX11_init_526 : decode cX11_init 526 = .ok (.bipush 118, 2) := by decide +kernel
theorem dX11_init_528 : decode cX11_init 528 = .ok (.bipush 101, 2) := by decide +kernel
theorem dX11_init_530 : decode cX11_init 530 = .ok (.bipush 115, 2) := by decide +kernel
theorem dX11_init_532 : decode cX11_init 532 = .ok (.iconst 0, 1) := by decide +kernel
theorem dX11_init_533 : decode cX11_init 533 = .ok (.iconst 0, 1) := by decide +kernel
theorem dX11_init_534 : decode cX11_init 534 = .ok (.invokestatic 180, 3) := by decide +kernel
theorem dX11_init_537 : decode cX11_init 537 = .ok (.lastore, 1) := by decide +kernel
theorem dX11_init_538 : decode cX11_init 538 = .ok (.aload_n 0, 1) := by decide +kernel
theorem dX11_init_539 : decode cX11_init 539 = .ok (.getfield 34, 3) := by decide +kernel
theorem dX11_init_542 : decode cX11_init 542 = .ok (.iconst 5, 1) := by decide +kernel
theorem dX11_init_543 : decode cX11_init 543 = .ok (.bipush 100, 2) := by decide +kernel
theorem dX11_init_545 : decode cX11_init 545 = .ok (.bipush 114, 2) := by decide +kernel
theorem dX11_init_547 : decode cX11_init 547 = .ok (.bipush 111, 2) := by decide +kernel
theorem dX11_init_549 : decode cX11_init 549 = .ok (.bipush 112, 2) := by decide +kernel
theorem dX11_init_551 : decode cX11_init 551 = .ok (.bipush 115, 2) := by decide +kernel
theorem dX11_init_553 : decode cX11_init 553 = .ok (.iconst 0, 1) := by decide +kernel
theorem dX11_init_554 : decode cX11_init 554 = .ok (.iconst 0, 1) := by decide +kernel
theorem dX11_init_555 : decode cX11_init 555 = .ok (.invokestatic 180, 3) := by decide +kernel
theorem dX11_init_558 : decode cX11_init 558 = .ok (.lastore, 1) := by decide +kernel
theorem dX11_init_559 : decode cX11_init 559 = .ok (.aload_n 0, 1) := by decide +kernel
theorem dX11_init_560 : decode cX11_init 560 = .ok (.getfield 34, 3) := by decide +kernel
theorem dX11_init_563 : decode cX11_init 563 = .ok (.bipush 6, 2) := by decide +kernel
theorem dX11_init_565 : decode cX11_init 565 = .ok (.bipush 111, 2) := by decide +kernel
theorem dX11_init_567 : decode cX11_init 567 = .ok (.bipush 114, 2) := by decide +kernel
theorem dX11_init_569 : decode cX11_init 569 = .ok (.iconst 0, 1) := by decide +kernel
theorem dX11_init_570 : decode cX11_init 570 = .ok (.iconst 0, 1) := by decide +kernel
theorem dX11_init_571 : decode cX11_init 571 = .ok (.iconst 0, 1) := by decide +kernel
theorem dX11_init_572 : decode cX11_init 572 = .ok (.iconst 0, 1) := by decide +kernel
theorem dX11_init_573 : decode cX11_init 573 = .ok (.iconst 0, 1) := by decide +kernel
theorem dX11_init_574 : decode cX11_init 574 = .ok (.invokestatic 180, 3) := by decide +kernel
theorem dX11_init_577 : decode cX11_init 577 = .ok (.lastore, 1) := by decide +kernel
theorem dX11_init_578 : decode cX11_init 578 = .ok (.aload_n 0, 1) := by decide +kernel
theorem dX11_init_579 : decode cX11_init 579 = .ok (.getfield 34, 3) := by decide +kernel
theorem dX11_init_582 : decode cX11_init 582 = .ok (.bipush 7, 2) := by decide +kernel
theorem dX11_init_584 : decode cX11_init 584 = .ok (.bipush 97, 2) := by decide +kernel
theorem dX11_init_586 : decode cX11_init 586 = .ok (.bipush 110, 2) := by decide +kernel
theorem dX11_init_588 : decode cX11_init 588 = .ok (.bipush 100, 2) := by decide +kernel
theorem dX11_init_590 : decode cX11_init 590 = .ok (.iconst 0, 1) := by decide +kernel
theorem dX11_init_591 : decode cX11_init 591 = .ok (.iconst 0, 1) := by decide +kernel
theorem dX11_init_592 : decode cX11_init 592 = .ok (.iconst 0, 1) := by decide +kernel
theorem dX11_init_593 : decode cX11_init 593 = .ok (.iconst 0, 1) := by decide +kernel
theorem dX11_init_594 : decode cX11_init 594 = .ok (.invokestatic 180, 3) := by decide +kernel
theorem dX11_init_597 : decode cX11_init 597 = .ok (.lastore, 1) := by decide +kernel
theorem dX11_init_598 : decode cX11_init 598 = .ok (.aload_n 0, 1) := by decide +kernel
theorem dX11_init_599 : decode cX11_init 599 = .ok (.getfield 34, 3) := by decide +kernel
theorem dX11_init_602 : decode cX11_init 602 = .ok (.bipush 8, 2) := by decide +kernel
theorem dX11_init_604 : decode cX11_init 604 = .ok (.bipush 110, 2) := by decide +kernel
theorem dX11_init_606 : decode cX11_init 606 = .ok (.bipush 111, 2) := by decide +kernel
theorem dX11_init_608 : decode cX11_init 608 = .ok (.bipush 116, 2) := by decide +kernel
theorem dX11_init_610 : decode cX11_init 610 = .ok (.iconst 0, 1) := by decide +kernel
theorem dX11_init_611 : decode cX11_init 611 = .ok (.iconst 0, 1) := by decide +kernel
theorem dX11_init_612 : decode cX11_init 612 = .ok (.iconst 0, 1) := by decide +kernel
theorem dX11_init_613 : decode cX11_init 613 = .ok (.iconst 0, 1) := by decide +kernel
theorem dX11_init_614 : decode cX11_init 614 = .ok (.invokestatic 180, 3) := by decide +kernel
theorem dX11_init_617 : decode cX11_init 617 = .ok (.lastore, 1) := by decide +kernel
theorem dX11_init_618 : decode cX11_init 618 = .ok (.aload_n 0, 1) := by decide +kernel
theorem dX11_init_619 : decode cX11_init 619 = .ok (.getfield 34, 3) := by decide +kernel
theorem dX11_init_622 : decode cX11_init 622 = .ok (.bipush 9, 2) := by decide +kernel
theorem dX11_init_624 : decode cX11_init 624 = .ok (.bipush 119, 2) := by decide +kernel
theorem dX11_init_626 : decode cX11_init 626 = .ok (.bipush 101, 2) := by decide +kernel
theorem dX11_init_628 : decode cX11_init 628 = .ok (.bipush 97, 2) := by decide +kernel
theorem dX11_init_630 : decode cX11_init 630 = .ok (.bipush 114, 2) := by decide +kernel
theorem dX11_init_632 : decode cX11_init 632 = .ok (.bipush 115, 2) := by decide +kernel
theorem dX11_init_634 : decode cX11_init 634 = .ok (.iconst 0, 1) := by decide +kernel
theorem dX11_init_635 : decode cX11_init 635 = .ok (.iconst 0, 1) := by decide +kernel
theorem dX11_init_636 : decode cX11_init 636 = .ok (.invokestatic 180, 3) := by decide +kernel
theorem dX11_init_639 : decode cX11_init 639 = .ok (.lastore, 1) := by decide +kernel
theorem dX11_init_640 : decode cX11_init 640 = .ok (.aload_n 0, 1) := by decide +kernel
theorem dX11_init_641 : decode cX11_init 641 = .ok (.getfield 34, 3) := by decide +kernel
theorem dX11_init_644 : decode cX11_init 644 = .ok (.bipush 10, 2) := by decide +kernel
theorem dX11_init_646 : decode cX11_init 646 = .ok (.bipush 109, 2) := by decide +kernel
theorem dX11_init_648 : decode cX11_init 648 = .ok (.bipush 101, 2) := by decide +kernel
theorem dX11_init_650 : decode cX11_init 650 = .ok (.bipush 110, 2) := by decide +kernel
theorem dX11_init_652 : decode cX11_init 652 = .ok (.bipush 100, 2) := by decide +kernel
theorem dX11_init_654 : decode cX11_init 654 = .ok (.bipush 115, 2) := by decide +kernel
theorem dX11_init_656 : decode cX11_init 656 = .ok (.iconst 0, 1) := by decide +kernel
theorem dX11_init_657 : decode cX11_init 657 = .ok (.iconst 0, 1) := by decide +kernel
theorem dX11_init_658 : decode cX11_init 658 = .ok (.invokestatic 180, 3) := by decide +kernel
theorem dX11_init_661 : decode cX11_init 661 = .ok (.lastore, 1) := by decide +kernel
theorem dX11_init_662 : decode cX11_init 662 = .ok (.aload_n 0, 1) := by decide +kernel
theorem dX11_init_663 : decode cX11_init 663 = .ok (.getfield 34, 3) := by decide +kernel
theorem dX11_init_666 : decode cX11_init 666 = .ok (.bipush 11, 2) := by decide +kernel
theorem dX11_init_668 : decode cX11_init 668 = .ok (.bipush 97, 2) := by decide +kernel
theorem dX11_init_670 : decode cX11_init 670 = .ok (.bipush 115, 2) := by decide +kernel
theorem dX11_init_672 : decode cX11_init 672 = .ok (.bipush 107, 2) := by decide +kernel
theorem dX11_init_674 : decode cX11_init 674 = .ok (.bipush 115, 2) := by decide +kernel
theorem dX11_init_676 : decode cX11_init 676 = .ok (.iconst 0, 1) := by decide +kernel
theorem dX11_init_677 : decode cX11_init 677 = .ok (.iconst 0, 1) := by decide +kernel
theorem dX11_init_678 : decode cX11_init 678 = .ok (.iconst 0, 1) := by decide +kernel
theorem dX11_init_679 : decode cX11_init 679 = .ok (.invokestatic 180, 3) := by decide +kernel
theorem dX11_init_682 : decode cX11_init 682 = .ok (.lastore, 1) := by decide +kernel
theorem dX11_init_683 : decode cX11_init 683 = .ok (.aload_n 0, 1) := by decide +kernel
theorem dX11_init_684 : decode cX11_init 684 = .ok (.getfield 34, 3) := by decide +kernel
theorem dX11_init_687 : decode cX11_init 687 = .ok (.bipush 12, 2) := by decide +kernel
theorem dX11_init_689 : decode cX11_init 689 = .ok (.bipush 115, 2) := by decide +kernel
theorem dX11_init_691 : decode cX11_init 691 = .ok (.bipush 116, 2) := by decide +kernel
theorem dX11_init_693 : decode cX11_init 693 = .ok (.bipush 111, 2) := by decide +kernel
theorem dX11_init_695 : decode cX11_init 695 = .ok (.bipush 114, 2) := by decide +kernel
theorem dX11_init_697 : decode cX11_init 697 = .ok (.bipush 109, 2) := by decide +kernel
theorem dX11_init_699 : decode cX11_init 699 = .ok (.iconst 0, 1) := by decide +kernel
theorem dX11_init_700 : decode cX11_init 700 = .ok (.iconst 0, 1) := by decide +kernel
theorem dX11_init_701 : decode cX11_init 701 = .ok (.invokestatic 180, 3) := by decide +kernel
theorem dX11_init_704 : decode cX11_init 704 = .ok (.lastore, 1) := by decide +kernel
theorem dX11_init_705 : decode cX11_init 705 = .ok (.aload_n 0, 1) := by decide +kernel
theorem dX11_init_706 : decode cX11_init 706 = .ok (.getfield 34, 3) := by decide +kernel
theorem dX11_init_709 : decode cX11_init 709 = .ok (.bipush 13, 2) := by decide +kernel
theorem dX11_init_711 : decode cX11_init 711 = .ok (.bipush 115, 2) := by decide +kernel
theorem dX11_init_713 : decode cX11_init 713 = .ok (.bipush 101, 2) := by decide +kernel
theorem dX11_init_715 : decode cX11_init 715 = .ok (.bipush 101, 2) := by decide +kernel
theorem dX11_init_717 : decode cX11_init 717 = .ok (.bipush 100, 2) := by decide +kernel
theorem dX11_init_719 : decode cX11_init 719 = .ok (.iconst 0, 1) := by decide +kernel
theorem dX11_init_720 : decode cX11_init 720 = .ok (.iconst 0, 1) := by decide +kernel
theorem dX11_init_721 : decode cX11_init 721 = .ok (.iconst 0, 1) := by decide +kernel
theorem dX11_init_722 : decode cX11_init 722 = .ok (.invokestatic 180, 3) := by decide +kernel
theorem dX11_init_725 : decode cX11_init 725 = .ok (.lastore, 1) := by decide +kernel
theorem dX11_init_726 : decode cX11_init 726 = .ok (.aload_n 0, 1) := by decide +kernel
theorem dX11_init_727 : decode cX11_init 727 = .ok (.getfield 34, 3) := by decide +kernel
theorem dX11_init_730 : decode cX11_init 730 = .ok (.bipush 14, 2) := by decide +kernel
theorem dX11_init_732 : decode cX11_init 732 = .ok (.bipush 105, 2) := by decide +kernel
theorem dX11_init_734 : decode cX11_init 734 = .ok (.bipush 102, 2) := by decide +kernel
theorem dX11_init_736 : decode cX11_init 736 = .ok (.iconst 0, 1) := by decide +kernel
theorem dX11_init_737 : decode cX11_init 737 = .ok (.iconst 0, 1) := by decide +kernel
theorem dX11_init_738 : decode cX11_init 738 = .ok (.iconst 0, 1) := by decide +kernel
theorem dX11_init_739 : decode cX11_init 739 = .ok (.iconst 0, 1) := by decide +kernel
theorem dX11_init_740 : decode cX11_init 740 = .ok (.iconst 0, 1) := by decide +kernel
theorem dX11_init_741 : decode cX11_init 741 = .ok (.invokestatic 180, 3) := by decide +kernel
theorem dX11_init_744 : decode cX11_init 744 = .ok (.lastore, 1) := by decide +kernel
theorem dX11_init_745 : decode cX11_init 745 = .ok (.aload_n 0, 1) := by decide +kernel
theorem dX11_init_746 : decode cX11_init 746 = .ok (.getfield 34, 3) := by decide +kernel
theorem dX11_init_749 : decode cX11_init 749 = .ok (.bipush 15, 2) := by decide +kernel
theorem dX11_init_751 : decode cX11_init 751 = .ok (.bipush 116, 2) := by decide +kernel
theorem dX11_init_753 : decode cX11_init 753 = .ok (.bipush 104, 2) := by decide +kernel
theorem dX11_init_755 : decode cX11_init 755 = .ok (.bipush 101, 2) := by decide +kernel
theorem dX11_init_757 : decode cX11_init 757 = .ok (.bipush 110, 2) := by decide +kernel
theorem dX11_init_759 : decode cX11_init 759 = .ok (.iconst 0, 1) := by decide +kernel
theorem dX11_init_760 : decode cX11_init 760 = .ok (.iconst 0, 1) := by decide +kernel
theorem dX11_init_761 : decode cX11_init 761 = .ok (.iconst 0, 1) := by decide +kernel
theorem dX11_init_762 : decode cX11_init 762 = .ok (.invokestatic 180, 3) := by decide +kernel
theorem dX11_init_765 : decode cX11_init 765 = .ok (.lastore, 1) := by decide +kernel
theorem dX11_init_766 : decode cX11_init 766 = .ok (.aload_n 0, 1) := by decide +kernel
theorem dX11_init_767 : decode cX11_init 767 = .ok (.getfield 34, 3) := by decide +kernel
theorem dX11_init_770 : decode cX11_init 770 = .ok (.bipush 16, 2) := by decide +kernel
theorem dX11_init_772 : decode cX11_init 772 = .ok (.bipush 101, 2) := by decide +kernel
theorem dX11_init_774 : decode cX11_init 774 = .ok (.bipush 108, 2) := by decide +kernel
theorem dX11_init_776 : decode cX11_init 776 = .ok (.bipush 115, 2) := by decide +kernel
theorem dX11_init_778 : decode cX11_init 778 = .ok (.bipush 101, 2) := by decide +kernel
theorem dX11_init_780 : decode cX11_init 780 = .ok (.iconst 0, 1) := by decide +kernel
theorem dX11_init_781 : decode cX11_init 781 = .ok (.iconst 0, 1) := by decide +kernel
theorem dX11_init_782 : decode cX11_init 782 = .ok (.iconst 0, 1) := by decide +kernel
theorem dX11_init_783 : decode cX11_init 783 = .ok (.invokestatic 180, 3) := by decide +kernel
theorem dX11_init_786 : decode cX11_init 786 = .ok (.lastore, 1) := by decide +kernel
theorem dX11_init_787 : decode cX11_init 787 = .ok (.aload_n 0, 1) := by decide +kernel
theorem dX11_init_788 : decode cX11_init 788 = .ok (.getfield 34, 3) := by decide +kernel
theorem dX11_init_791 : decode cX11_init 791 = .ok (.bipush 17, 2) := by decide +kernel
theorem dX11_init_793 : decode cX11_init 793 = .ok (.bipush 115, 2) := by decide +kernel
theorem dX11_init_795 : decode cX11_init 795 = .ok (.bipush 116, 2) := by decide +kernel
theorem dX11_init_797 : decode cX11_init 797 = .ok (.bipush 111, 2) := by decide +kernel
theorem dX11_init_799 : decode cX11_init 799 = .ok (.bipush 110, 2) := by decide +kernel
theorem dX11_init_801 : decode cX11_init 801 = .ok (.bipush 101, 2) := by decide +kernel
theorem dX11_init_803 : decode cX11_init 803 = .ok (.bipush 115, 2) := by decide +kernel
theorem dX11_init_805 : decode cX11_init 805 = .ok (.iconst 0, 1) := by decide +kernel
theorem dX11_init_806 : decode cX11_init 806 = .ok (.invokestatic 180, 3) := by decide +kernel
theorem dX11_init_809 : decode cX11_init 809 = .ok (.lastore, 1) := by decide +kernel
theorem dX11_init_810 : decode cX11_init 810 = .ok (.aload_n 0, 1) := by decide +kernel
theorem dX11_init_811 : decode cX11_init 811 = .ok (.getfield 34, 3) := by decide +kernel
theorem dX11_init_814 : decode cX11_init 814 = .ok (.bipush 18, 2) := by decide +kernel
theorem dX11_init_816 : decode cX11_init 816 = .ok (.bipush 108, 2) := by decide +kernel
theorem dX11_init_818 : decode cX11_init 818 = .ok (.bipush 111, 2) := by decide +kernel
theorem dX11_init_820 : decode cX11_init 820 = .ok (.bipush 97, 2) := by decide +kernel
theorem dX11_init_822 : decode cX11_init 822 = .ok (.bipush 100, 2) := by decide +kernel
theorem dX11_init_824 : decode cX11_init 824 = .ok (.iconst 0, 1) := by decide +kernel
theorem dX11_init_825 : decode cX11_init 825 = .ok (.iconst 0, 1) := by decide +kernel
theorem dX11_init_826 : decode cX11_init 826 = .ok (.iconst 0, 1) := by decide +kernel
theorem dX11_init_827 : decode cX11_init 827 = .ok (.invokestatic 180, 3) := by decide +kernel
theorem dX11_init_830 : decode cX11_init 830 = .ok (.lastore, 1) := by decide +kernel
theorem dX11_init_831 : decode cX11_init 831 = .ok (.aload_n 0, 1) := by decide +kernel
theorem dX11_init_832 : decode cX11_init 832 = .ok (.getfield 34, 3) := by decide +kernel
theorem dX11_init_835 : decode cX11_init 835 = .ok (.bipush 19, 2) := by decide +kernel
theorem dX11_init_837 : decode cX11_init 837 = .ok (.bipush 121, 2) := by decide +kernel
theorem dX11_init_839 : decode cX11_init 839 = .ok (.bipush 101, 2) := by decide +kernel
theorem dX11_init_841 : decode cX11_init 841 = .ok (.bipush 97, 2) := by decide +kernel
theorem dX11_init_843 : decode cX11_init 843 = .ok (.bipush 114, 2) := by decide +kernel
theorem dX11_init_845 : decode cX11_init 845 = .ok (.iconst 0, 1) := by decide +kernel
theorem dX11_init_846 : decode cX11_init 846 = .ok (.iconst 0, 1) := by decide +kernel
theorem dX11_init_847 : decode cX11_init 847 = .ok (.iconst 0, 1) := by decide +kernel
theorem dX11_init_848 : decode cX11_init 848 = .ok (.invokestatic 180, 3) := by decide +kernel
theorem dX11_init_851 : decode cX11_init 851 = .ok (.lastore, 1) := by decide +kernel
theorem dX11_init_852 : decode cX11_init 852 = .ok (.aload_n 0, 1) := by decide +kernel
theorem dX11_init_853 : decode cX11_init 853 = .ok (.getfield 34, 3) := by decide +kernel
theorem dX11_init_856 : decode cX11_init 856 = .ok (.bipush 20, 2) := by decide +kernel
theorem dX11_init_858 : decode cX11_init 858 = .ok (.bipush 115, 2) := by decide +kernel
theorem dX11_init_860 : decode cX11_init 860 = .ok (.bipush 116, 2) := by decide +kernel
theorem dX11_init_862 : decode cX11_init 862 = .ok (.bipush 111, 2) := by decide +kernel
theorem dX11_init_864 : decode cX11_init 864 = .ok (.bipush 111, 2) := by decide +kernel
theorem dX11_init_866 : decode cX11_init 866 = .ok (.bipush 100, 2) := by decide +kernel
theorem dX11_init_868 : decode cX11_init 868 = .ok (.iconst 0, 1) := by decide +kernel
theorem dX11_init_869 : decode cX11_init 869 = .ok (.iconst 0, 1) := by decide +kernel
theorem dX11_init_870 : decode cX11_init 870 = .ok (.invokestatic 180, 3) := by decide +kernel
theorem dX11_init_873 : decode cX11_init 873 = .ok (.lastore, 1) := by decide +kernel
theorem dX11_init_874 : decode cX11_init 874 = .ok (.aload_n 0, 1) := by decide +kernel
theorem dX11_init_875 : decode cX11_init 875 = .ok (.getfield 34, 3) := by decide +kernel
theorem dX11_init_878 : decode cX11_init 878 = .ok (.bipush 21, 2) := by decide +kernel
theorem dX11_init_880 : decode cX11_init 880 = .ok (.bipush 119, 2) := by decide +kernel
theorem dX11_init_882 : decode cX11_init 882 = .ok (.bipush 104, 2) := by decide +kernel
theorem dX11_init_884 : decode cX11_init 884 = .ok (.bipush 105, 2) := by decide +kernel
theorem dX11_init_886 : decode cX11_init 886 = .ok (.bipush 99, 2) := by decide +kernel
theorem dX11_init_888 : decode cX11_init 888 = .ok (.bipush 104, 2) := by decide +kernel
theorem dX11_init_890 : decode cX11_init 890 = .ok (.iconst 0, 1) := by decide +kernel
theorem dX11_init_891 : decode cX11_init 891 = .ok (.iconst 0, 1) := by decide +kernel
theorem dX11_init_892 : decode cX11_init 892 = .ok (.invokestatic 180, 3) := by decide +kernel
theorem dX11_init_895 : decode cX11_init 895 = .ok (.lastore, 1) := by decide +kernel
theorem dX11_init_896 : decode cX11_init 896 = .ok (.aload_n 0, 1) := by decide +kernel
theorem dX11_init_897 : decode cX11_init 897 = .ok (.getfield 34, 3) := by decide +kernel
theorem dX11_init_900 : decode cX11_init 900 = .ok (.bipush 22, 2) := by decide +kernel
theorem dX11_init_902 : decode cX11_init 902 = .ok (.bipush 108, 2) := by decide +kernel
theorem dX11_init_904 : decode cX11_init 904 = .ok (.bipush 111, 2) := by decide +kernel
theorem dX11_init_906 : decode cX11_init 906 = .ok (.bipush 115, 2) := by decide +kernel
theorem dX11_init_908 : decode cX11_init 908 = .ok (.bipush 115, 2) := by decide +kernel
theorem dX11_init_910 : decode cX11_init 910 = .ok (.iconst 0, 1) := by decide +kernel
theorem dX11_init_911 : decode cX11_init 911 = .ok (.iconst 0, 1) := by decide +kernel
theorem dX11_init_912 : decode cX11_init 912 = .ok (.iconst 0, 1) := by decide +kernel
theorem dX11_init_913 : decode cX11_init 913 = .ok (.invokestatic 180, 3) := by decide +kernel
theorem dX11_init_916 : decode cX11_init 916 = .ok (.lastore, 1) := by decide +kernel
theorem dX11_init_917 : decode cX11_init 917 = .ok (.aload_n 0, 1) := by decide +kernel
theorem dX11_init_918 : decode cX11_init 918 = .ok (.getfield 34, 3) := by decide +kernel
theorem dX11_init_921 : decode cX11_init 921 = .ok (.bipush 23, 2) := by decide +kernel
theorem dX11_init_923 : decode cX11_init 923 = .ok (.bipush 109, 2) := by decide +kernel
theorem dX11_init_925 : decode cX11_init 925 = .ok (.bipush 97, 2) := by decide +kernel
theorem dX11_init_927 : decode cX11_init 927 = .ok (.bipush 110, 2) := by decide +kernel
theorem dX11_init_929 : decode cX11_init 929 = .ok (.bipush 121, 2) := by decide +kernel
theorem dX11_init_931 : decode cX11_init 931 = .ok (.iconst 0, 1) := by decide +kernel
theorem dX11_init_932 : decode cX11_init 932 = .ok (.iconst 0, 1) := by decide +kernel
theorem dX11_init_933 : decode cX11_init 933 = .ok (.iconst 0, 1) := by decide +kernel
theorem dX11_init_934 : decode cX11_init 934 = .ok (.invokestatic 180, 3) := by decide +kernel
theorem dX11_init_937 : decode cX11_init 937 = .ok (.lastore, 1) := by decide +kernel
theorem dX11_init_938 : decode cX11_init 938 = .ok (.aload_n 0, 1) := by decide +kernel
theorem dX11_init_939 : decode cX11_init 939 = .ok (.getfield 34, 3) := by decide +kernel
theorem dX11_init_942 : decode cX11_init 942 = .ok (.bipush 24, 2) := by decide +kernel
theorem dX11_init_944 : decode cX11_init 944 = .ok (.bipush 111, 2) := by decide +kernel
theorem dX11_init_946 : decode cX11_init 946 = .ok (.bipush 112, 2) := by decide +kernel
theorem dX11_init_948 : decode cX11_init 948 = .ok (.bipush 101, 2) := by decide +kernel
theorem dX11_init_950 : decode cX11_init 950 = .ok (.bipush 110, 2) := by decide +kernel
theorem dX11_init_952 : decode cX11_init 952 = .ok (.iconst 0, 1) := by decide +kernel
theorem dX11_init_953 : decode cX11_init 953 = .ok (.iconst 0, 1) := by decide +kernel
theorem dX11_init_954 : decode cX11_init 954 = .ok (.iconst 0, 1) := by decide +kernel
theorem dX11_init_955 : decode cX11_init 955 = .ok (.invokestatic 180, 3) := by decide +kernel
theorem dX11_init_958 : decode cX11_init 958 = .ok (.lastore, 1) := by decide +kernel
theorem dX11_init_959 : decode cX11_init 959 = .ok (.aload_n 0, 1) := by decide +kernel
theorem dX11_init_960 : decode cX11_init 960 = .ok (.getfield 34, 3) := by decide +kernel
theorem dX11_init_963 : decode cX11_init 963 = .ok (.bipush 25, 2) := by decide +kernel
theorem dX11_init_965 : decode cX11_init 965 = .ok (.bipush 108, 2) := by decide +kernel
theorem dX11_init_967 : decode cX11_init 967 = .ok (.bipush 101, 2) := by decide +kernel
theorem dX11_init_969 : decode cX11_init 969 = .ok (.bipush 97, 2) := by decide +kernel
theorem dX11_init_971 : decode cX11_init 971 = .ok (.bipush 114, 2) := by decide +kernel
theorem dX11_init_973 : decode cX11_init 973 = .ok (.bipush 110, 2) := by decide +kernel
theorem dX11_init_975 : decode cX11_init 975 = .ok (.bipush 116, 2) := by decide +kernel
theorem dX11_init_977 : decode cX11_init 977 = .ok (.iconst 0, 1) := by decide +kernel
theorem dX11_init_978 : decode cX11_init 978 = .ok (.invokestatic 180, 3) := by decide +kernel
theorem dX11_init_981 : decode cX11_init 981 = .ok (.lastore, 1) := by decide +kernel
theorem dX11_init_982 : decode cX11_init 982 = .ok (.aload_n 0, 1) := by decide +kernel
theorem dX11_init_983 : decode cX11_init 983 = .ok (.invokevirtual 184, 3) := by decide +kernel
theorem dX11_init_986 : decode cX11_init 986 = .ok (.aload_n 0, 1) := by decide +kernel
theorem dX11_init_987 : decode cX11_init 987 = .ok (.invokevirtual 187, 3) := by decide +kernel
theorem dX11_init_990 : decode cX11_init 990 = .ok (.return_, 1) := by decide +kernel
theorem dX11_feed_0 : decode cX11_feed 0 = .ok (.aload_n 0, 1) := by decide +kernel
theorem dX11_feed_1 : decode cX11_feed 1 = .ok (.getfield 190, 3) := by decide +kernel
theorem dX11_feed_4 : decode cX11_feed 4 = .ok (.bipush 20, 2) := by decide +kernel
theorem dX11_feed_6 : decode cX11_feed 6 = .ok (.iadd, 1) := by decide +kernel
theorem dX11_feed_7 : decode cX11_feed 7 = .ok (.sipush 2000, 3) := by decide +kernel
theorem dX11_feed_10 : decode cX11_feed 10 = .ok (.if_icmp .le 5, 3) := by decide +kernel
theorem dX11_feed_13 : decode cX11_feed 13 = .ok (.iconst (-1), 1) := by decide +kernel
theorem dX11_feed_14 : decode cX11_feed 14 = .ok (.ireturn, 1) := by decide +kernel
theorem dX11_feed_15 : decode cX11_feed 15 = .ok (.aload_n 0, 1) := by decide +kernel
theorem dX11_feed_16 : decode cX11_feed 16 = .ok (.iload_n 1, 1) := by decide +kernel
theorem dX11_feed_17 : decode cX11_feed 17 = .ok (.invokevirtual 193, 3) := by decide +kernel
theorem dX11_feed_20 : decode cX11_feed 20 = .ok (.aload_n 0, 1) := by decide +kernel
theorem dX11_feed_21 : decode cX11_feed 21 = .ok (.iload_n 2, 1) := by decide +kernel
theorem dX11_feed_22 : decode cX11_feed 22 = .ok (.invokevirtual 193, 3) := by decide +kernel
theorem dX11_feed_25 : decode cX11_feed 25 = .ok (.aload_n 0, 1) := by decide +kernel
theorem dX11_feed_26 : decode cX11_feed 26 = .ok (.iload_n 3, 1) := by decide +kernel
theorem dX11_feed_27 : decode cX11_feed 27 = .ok (.invokevirtual 193, 3) := by decide +kernel
theorem dX11_feed_30 : decode cX11_feed 30 = .ok (.aload_n 0, 1) := by decide +kernel
theorem dX11_feed_31 : decode cX11_feed 31 = .ok (.iload 4, 2) := by decide +kernel
theorem dX11_feed_33 : decode cX11_feed 33 = .ok (.invokevirtual 193, 3) := by decide +kernel
theorem dX11_feed_36 : decode cX11_feed 36 = .ok (.aload_n 0, 1) := by decide +kernel
theorem dX11_feed_37 : decode cX11_feed 37 = .ok (.iload 5, 2) := by decide +kernel
theorem dX11_feed_39 : decode cX11_feed 39 = .ok (.invokevirtual 193, 3) := by decide +kernel
theorem dX11_feed_42 : decode cX11_feed 42 = .ok (.aload_n 0, 1) := by decide +kernel
theorem dX11_feed_43 : decode cX11_feed 43 = .ok (.getfield 190, 3) := by decide +kernel
theorem dX11_feed_46 : decode cX11_feed 46 = .ok (.ireturn, 1) := by decide +kernel
theorem dX11_put_0 : decode cX11_put 0 = .ok (.bipush 24, 2) := by decide +kernel
theorem dX11_put_2 : decode cX11_put 2 = .ok (.istore_n 2, 1) := by decide +kernel
theorem dX11_put_3 : decode cX11_put 3 = .ok (.iload_n 2, 1) := by decide +kernel
theorem dX11_put_4 : decode cX11_put 4 = .ok (.ifCond .lt 32, 3) := by decide +kernel
theorem dX11_put_7 : decode cX11_put 7 = .ok (.aload_n 0, 1) := by decide +kernel
theorem dX11_put_8 : decode cX11_put 8 = .ok (.getfield 13, 3) := by decide +kernel
theorem dX11_put_11 : decode cX11_put 11 = .ok (.aload_n 0, 1) := by decide +kernel
theorem dX11_put_12 : decode cX11_put 12 = .ok (.getfield 190, 3) := by decide +kernel
theorem dX11_put_15 : decode cX11_put 15 = .ok (.iload_n 1, 1) := by decide +kernel
theorem dX11_put_16 : decode cX11_put 16 = .ok (.iload_n 2, 1) := by decide +kernel
theorem dX11_put_17 : decode cX11_put 17 = .ok (.ishr, 1) := by decide +kernel
theorem dX11_put_18 : decode cX11_put 18 = .ok (.i2b, 1) := by decide +kernel
theorem dX11_put_19 : decode cX11_put 19 = .ok (.bastore, 1) := by decide +kernel
theorem dX11_put_20 : decode cX11_put 20 = .ok (.aload_n 0, 1) := by decide +kernel
theorem dX11_put_21 : decode cX11_put 21 = .ok (.dup, 1) := by decide +kernel
theorem dX11_put_22 : decode cX11_put 22 = .ok (.getfield 190, 3) := by decide +kernel
theorem dX11_put_25 : decode cX11_put 25 = .ok (.iconst 1, 1) := by decide +kernel
theorem dX11_put_26 : decode cX11_put 26 = .ok (.iadd, 1) := by decide +kernel
theorem dX11_put_27 : decode cX11_put 27 = .ok (.putfield 190, 3) := by decide +kernel
theorem dX11_put_30 : decode cX11_put 30 = .ok (.iinc 2 (-8), 3) := by decide +kernel
theorem dX11_put_33 : decode cX11_put 33 = .ok (.goto (-30), 3) := by decide +kernel
theorem dX11_put_36 : decode cX11_put 36 = .ok (.return_, 1) := by decide +kernel
theorem dX11_back_0 : decode cX11_back 0 = .ok (.iload_n 1, 1) := by decide +kernel
theorem dX11_back_1 : decode cX11_back 1 = .ok (.ifCond .lt 11, 3) := by decide +kernel
theorem dX11_back_4 : decode cX11_back 4 = .ok (.iload_n 1, 1) := by decide +kernel
theorem dX11_back_5 : decode cX11_back 5 = .ok (.aload_n 0, 1) := by decide +kernel
theorem dX11_back_6 : decode cX11_back 6 = .ok (.getfield 190, 3) := by decide +kernel
theorem dX11_back_9 : decode cX11_back 9 = .ok (.if_icmp .le 5, 3) := by decide +kernel
theorem dX11_back_12 : decode cX11_back 12 = .ok (.iconst (-1), 1) := by decide +kernel
theorem dX11_back_13 : decode cX11_back 13 = .ok (.ireturn, 1) := by decide +kernel
theorem dX11_back_14 : decode cX11_back 14 = .ok (.aload_n 0, 1) := by decide +kernel
theorem dX11_back_15 : decode cX11_back 15 = .ok (.dup, 1) := by decide +kernel
theorem dX11_back_16 : decode cX11_back 16 = .ok (.getfield 190, 3) := by decide +kernel
theorem dX11_back_19 : decode cX11_back 19 = .ok (.iload_n 1, 1) := by decide +kernel
theorem dX11_back_20 : decode cX11_back 20 = .ok (.isub, 1) := by decide +kernel
theorem dX11_back_21 : decode cX11_back 21 = .ok (.putfield 190, 3) := by decide +kernel
theorem dX11_back_24 : decode cX11_back 24 = .ok (.aload_n 0, 1) := by decide +kernel
theorem dX11_back_25 : decode cX11_back 25 = .ok (.getfield 190, 3) := by decide +kernel
theorem dX11_back_28 : decode cX11_back 28 = .ok (.ireturn, 1) := by decide +kernel
theorem dX11_byteAt_0 : decode cX11_byteAt 0 = .ok (.iload_n 1, 1) := by decide +kernel
theorem dX11_byteAt_1 : decode cX11_byteAt 1 = .ok (.aload_n 0, 1) := by decide +kernel
theorem dX11_byteAt_2 : decode cX11_byteAt 2 = .ok (.getfield 196, 3) := by decide +kernel
theorem dX11_byteAt_5 : decode cX11_byteAt 5 = .ok (.if_icmp .ge 16, 3) := by decide +kernel
theorem dX11_byteAt_8 : decode cX11_byteAt 8 = .ok (.aload_n 0, 1) := by decide +kernel
theorem dX11_byteAt_9 : decode cX11_byteAt 9 = .ok (.getfield 17, 3) := by decide +kernel
theorem dX11_byteAt_12 : decode cX11_byteAt 12 = .ok (.iload_n 1, 1) := by decide +kernel
theorem dX11_byteAt_13 : decode cX11_byteAt 13 = .ok (.baload, 1) := by decide +kernel
theorem dX11_byteAt_14 : decode cX11_byteAt 14 = .ok (.sipush 255, 3) := by decide +kernel
theorem dX11_byteAt_17 : decode cX11_byteAt 17 = .ok (.iand, 1) := by decide +kernel
theorem dX11_byteAt_18 : decode cX11_byteAt 18 = .ok (.goto 4, 3) := by decide +kernel
theorem dX11_byteAt_21 : decode cX11_byteAt 21 = .ok (.iconst 0, 1) := by decide +kernel
theorem dX11_byteAt_22 : decode cX11_byteAt 22 = .ok (.ireturn, 1) := by decide +kernel
theorem dX11_isDigit_0 : decode cX11_isDigit 0 = .ok (.iload_n 0, 1) := by decide +kernel
theorem dX11_isDigit_1 : decode cX11_isDigit 1 = .ok (.bipush 48, 2) := by decide +kernel
theorem dX11_isDigit_3 : decode cX11_isDigit 3 = .ok (.if_icmp .lt 13, 3) := by decide +kernel
theorem dX11_isDigit_6 : decode cX11_isDigit 6 = .ok (.iload_n 0, 1) := by decide +kernel
theorem dX11_isDigit_7 : decode cX11_isDigit 7 = .ok (.bipush 57, 2) := by decide +kernel
theorem dX11_isDigit_9 : decode cX11_isDigit 9 = .ok (.if_icmp .gt 7, 3) := by decide +kernel
theorem dX11_isDigit_12 : decode cX11_isDigit 12 = .ok (.iconst 1, 1) := by decide +kernel
theorem dX11_isDigit_13 : decode cX11_isDigit 13 = .ok (.goto 4, 3) := by decide +kernel
theorem dX11_isDigit_16 : decode cX11_isDigit 16 = .ok (.iconst 0, 1) := by decide +kernel
theorem dX11_isDigit_17 : decode cX11_isDigit 17 = .ok (.ireturn, 1) := by decide +kernel
theorem dX11_isLetter_0 : decode cX11_isLetter 0 = .ok (.iload_n 0, 1) := by decide +kernel
theorem dX11_isLetter_1 : decode cX11_isLetter 1 = .ok (.bipush 97, 2) := by decide +kernel
theorem dX11_isLetter_3 : decode cX11_isLetter 3 = .ok (.if_icmp .lt 13, 3) := by decide +kernel
theorem dX11_isLetter_6 : decode cX11_isLetter 6 = .ok (.iload_n 0, 1) := by decide +kernel
theorem dX11_isLetter_7 : decode cX11_isLetter 7 = .ok (.bipush 122, 2) := by decide +kernel
theorem dX11_isLetter_9 : decode cX11_isLetter 9 = .ok (.if_icmp .gt 7, 3) := by decide +kernel
theorem dX11_isLetter_12 : decode cX11_isLetter 12 = .ok (.iconst 1, 1) := by decide +kernel
theorem dX11_isLetter_13 : decode cX11_isLetter 13 = .ok (.goto 4, 3) := by decide +kernel
theorem dX11_isLetter_16 : decode cX11_isLetter 16 = .ok (.iconst 0, 1) := by decide +kernel
theorem dX11_isLetter_17 : decode cX11_isLetter 17 = .ok (.ireturn, 1) := by decide +kernel
theorem dX11_appends_0 : decode cX11_appends 0 = .ok (.iload_n 2, 1) := by decide +kernel
theorem dX11_appends_1 : decode cX11_appends 1 = .ok (.ifCond .ne 7, 3) := by decide +kernel
theorem dX11_appends_4 : decode cX11_appends 4 = .ok (.lload_n 0, 1) := by decide +kernel
theorem dX11_appends_5 : decode cX11_appends 5 = .ok (.goto 16, 3) := by decide +kernel
theorem dX11_appends_8 : decode cX11_appends 8 = .ok (.ldc2_w 199, 3) := by decide +kernel
theorem dX11_appends_11 : decode cX11_appends 11 = .ok (.lload_n 0, 1) := by decide +kernel
theorem dX11_appends_12 : decode cX11_appends 12 = .ok (.lmul, 1) := by decide +kernel
theorem dX11_appends_13 : decode cX11_appends 13 = .ok (.iload_n 2, 1) := by decide +kernel
theorem dX11_appends_14 : decode cX11_appends 14 = .ok (.bipush 97, 2) := by decide +kernel
theorem dX11_appends_16 : decode cX11_appends 16 = .ok (.isub, 1) := by decide +kernel
theorem dX11_appends_17 : decode cX11_appends 17 = .ok (.iconst 1, 1) := by decide +kernel
theorem dX11_appends_18 : decode cX11_appends 18 = .ok (.iadd, 1) := by decide +kernel
theorem dX11_appends_19 : decode cX11_appends 19 = .ok (.i2l, 1) := by decide +kernel
theorem dX11_appends_20 : decode cX11_appends 20 = .ok (.ladd, 1) := by decide +kernel
theorem dX11_appends_21 : decode cX11_appends 21 = .ok (.lreturn, 1) := by decide +kernel
theorem dX11_word_0 : decode cX11_word 0 = .ok (.lconst 0, 1) := by decide +kernel
theorem dX11_word_1 : decode cX11_word 1 = .ok (.iload_n 0, 1) := by decide +kernel
theorem dX11_word_2 : decode cX11_word 2 = .ok (.invokestatic 201, 3) := by decide +kernel
theorem dX11_word_5 : decode cX11_word 5 = .ok (.iload_n 1, 1) := by decide +kernel
theorem dX11_word_6 : decode cX11_word 6 = .ok (.invokestatic 201, 3) := by decide +kernel
theorem dX11_word_9 : decode cX11_word 9 = .ok (.iload_n 2, 1) := by decide +kernel
theorem dX11_word_10 : decode cX11_word 10 = .ok (.invokestatic 201, 3) := by decide +kernel
theorem dX11_word_13 : decode cX11_word 13 = .ok (.iload_n 3, 1) := by decide +kernel
theorem dX11_word_14 : decode cX11_word 14 = .ok (.invokestatic 201, 3) := by decide +kernel
theorem dX11_word_17 : decode cX11_word 17 = .ok (.iload 4, 2) := by decide +kernel
theorem dX11_word_19 : decode cX11_word 19 = .ok (.invokestatic 201, 3) := by decide +kernel
theorem dX11_word_22 : decode cX11_word 22 = .ok (.iload 5, 2) := by decide +kernel
theorem dX11_word_24 : decode cX11_word 24 = .ok (.invokestatic 201, 3) := by decide +kernel
theorem dX11_word_27 : decode cX11_word 27 = .ok (.iload 6, 2) := by decide +kernel
theorem dX11_word_29 : decode cX11_word 29 = .ok (.invokestatic 201, 3) := by decide +kernel
theorem dX11_word_32 : decode cX11_word 32 = .ok (.lreturn, 1) := by decide +kernel
theorem dX11_token_0 : decode cX11_token 0 = .ok (.aload_n 0, 1) := by decide +kernel
theorem dX11_token_1 : decode cX11_token 1 = .ok (.getfield 20, 3) := by decide +kernel
theorem dX11_token_4 : decode cX11_token 4 = .ok (.aload_n 0, 1) := by decide +kernel
theorem dX11_token_5 : decode cX11_token 5 = .ok (.getfield 205, 3) := by decide +kernel
theorem dX11_token_8 : decode cX11_token 8 = .ok (.iload_n 1, 1) := by decide +kernel
theorem dX11_token_9 : decode cX11_token 9 = .ok (.iastore, 1) := by decide +kernel
theorem dX11_token_10 : decode cX11_token 10 = .ok (.aload_n 0, 1) := by decide +kernel
theorem dX11_token_11 : decode cX11_token 11 = .ok (.getfield 24, 3) := by decide +kernel
theorem dX11_token_14 : decode cX11_token 14 = .ok (.aload_n 0, 1) := by decide +kernel
theorem dX11_token_15 : decode cX11_token 15 = .ok (.getfield 205, 3) := by decide +kernel
theorem dX11_token_18 : decode cX11_token 18 = .ok (.iload_n 2, 1) := by decide +kernel
theorem dX11_token_19 : decode cX11_token 19 = .ok (.iastore, 1) := by decide +kernel
theorem dX11_token_20 : decode cX11_token 20 = .ok (.aload_n 0, 1) := by decide +kernel
theorem dX11_token_21 : decode cX11_token 21 = .ok (.getfield 27, 3) := by decide +kernel
theorem dX11_token_24 : decode cX11_token 24 = .ok (.aload_n 0, 1) := by decide +kernel
theorem dX11_token_25 : decode cX11_token 25 = .ok (.getfield 205, 3) := by decide +kernel
theorem dX11_token_28 : decode cX11_token 28 = .ok (.iload_n 3, 1) := by decide +kernel
theorem dX11_token_29 : decode cX11_token 29 = .ok (.iastore, 1) := by decide +kernel
theorem dX11_token_30 : decode cX11_token 30 = .ok (.aload_n 0, 1) := by decide +kernel
theorem dX11_token_31 : decode cX11_token 31 = .ok (.getfield 30, 3) := by decide +kernel
theorem dX11_token_34 : decode cX11_token 34 = .ok (.aload_n 0, 1) := by decide +kernel
theorem dX11_token_35 : decode cX11_token 35 = .ok (.getfield 205, 3) := by decide +kernel
theorem dX11_token_38 : decode cX11_token 38 = .ok (.lload 4, 2) := by decide +kernel
theorem dX11_token_40 : decode cX11_token 40 = .ok (.lastore, 1) := by decide +kernel
theorem dX11_token_41 : decode cX11_token 41 = .ok (.aload_n 0, 1) := by decide +kernel
theorem dX11_token_42 : decode cX11_token 42 = .ok (.dup, 1) := by decide +kernel
theorem dX11_token_43 : decode cX11_token 43 = .ok (.getfield 205, 3) := by decide +kernel
theorem dX11_token_46 : decode cX11_token 46 = .ok (.iconst 1, 1) := by decide +kernel
theorem dX11_token_47 : decode cX11_token 47 = .ok (.iadd, 1) := by decide +kernel
theorem dX11_token_48 : decode cX11_token 48 = .ok (.putfield 205, 3) := by decide +kernel
theorem dX11_token_51 : decode cX11_token 51 = .ok (.return_, 1) := by decide +kernel
theorem dX11_cut_0 : decode cX11_cut 0 = .ok (.aload_n 0, 1) := by decide +kernel
theorem dX11_cut_1 : decode cX11_cut 1 = .ok (.iconst 0, 1) := by decide +kernel
theorem dX11_cut_2 : decode cX11_cut 2 = .ok (.putfield 205, 3) := by decide +kernel
theorem dX11_cut_5 : decode cX11_cut 5 = .ok (.iconst 0, 1) := by decide +kernel
theorem dX11_cut_6 : decode cX11_cut 6 = .ok (.istore_n 1, 1) := by decide +kernel
theorem dX11_cut_7 : decode cX11_cut 7 = .ok (.aload_n 0, 1) := by decide +kernel
theorem dX11_cut_8 : decode cX11_cut 8 = .ok (.getfield 205, 3) := by decide +kernel
theorem dX11_cut_11 : decode cX11_cut 11 = .ok (.sipush 400, 3) := by decide +kernel
theorem dX11_cut_14 : decode cX11_cut 14 = .ok (.if_icmp .gt 280, 3) := by decide +kernel
theorem dX11_cut_17 : decode cX11_cut 17 = .ok (.aload_n 0, 1) := by decide +kernel
theorem dX11_cut_18 : decode cX11_cut 18 = .ok (.iload_n 1, 1) := by decide +kernel
theorem dX11_cut_19 : decode cX11_cut 19 = .ok (.invokevirtual 208, 3) := by decide +kernel
theorem dX11_cut_22 : decode cX11_cut 22 = .ok (.istore_n 2, 1) := by decide +kernel
theorem dX11_cut_23 : decode cX11_cut 23 = .ok (.iload_n 1, 1) := by decide +kernel
theorem dX11_cut_24 : decode cX11_cut 24 = .ok (.aload_n 0, 1) := by decide +kernel
theorem dX11_cut_25 : decode cX11_cut 25 = .ok (.getfield 196, 3) := by decide +kernel
theorem dX11_cut_28 : decode cX11_cut 28 = .ok (.if_icmp .lt 15, 3) := by decide +kernel
theorem dX11_cut_31 : decode cX11_cut 31 = .ok (.aload_n 0, 1) := by decide +kernel
theorem dX11_cut_32 : decode cX11_cut 32 = .ok (.iconst 0, 1) := by decide +kernel
theorem dX11_cut_33 : decode cX11_cut 33 = .ok (.aload_n 0, 1) := by decide +kernel
theorem dX11_cut_34 : decode cX11_cut 34 = .ok (.getfield 196, 3) := by decide +kernel
theorem dX11_cut_37 : decode cX11_cut 37 = .ok (.iconst 0, 1) := by decide +kernel
theorem dX11_cut_38 : decode cX11_cut 38 = .ok (.lconst 0, 1) := by decide +kernel
theorem dX11_cut_39 : decode cX11_cut 39 = .ok (.invokevirtual 212, 3) := by decide +kernel
theorem dX11_cut_42 : decode cX11_cut 42 = .ok (.return_, 1) := by decide +kernel
theorem dX11_cut_43 : decode cX11_cut 43 = .ok (.iload_n 2, 1) := by decide +kernel
theorem dX11_cut_44 : decode cX11_cut 44 = .ok (.bipush 9, 2) := by decide +kernel
theorem dX11_cut_46 : decode cX11_cut 46 = .ok (.if_icmp .eq 21, 3) := by decide +kernel
theorem dX11_cut_49 : decode cX11_cut 49 = .ok (.iload_n 2, 1) := by decide +kernel
theorem dX11_cut_50 : decode cX11_cut 50 = .ok (.bipush 10, 2) := by decide +kernel
theorem dX11_cut_52 : decode cX11_cut 52 = .ok (.if_icmp .eq 15, 3) := by decide +kernel
theorem dX11_cut_55 : decode cX11_cut 55 = .ok (.iload_n 2, 1) := by decide +kernel
theorem dX11_cut_56 : decode cX11_cut 56 = .ok (.bipush 13, 2) := by decide +kernel
theorem dX11_cut_58 : decode cX11_cut 58 = .ok (.if_icmp .eq 9, 3) := by decide +kernel
theorem dX11_cut_61 : decode cX11_cut 61 = .ok (.iload_n 2, 1) := by decide +kernel
theorem dX11_cut_62 : decode cX11_cut 62 = .ok (.bipush 32, 2) := by decide +kernel
theorem dX11_cut_64 : decode cX11_cut 64 = .ok (.if_icmp .ne 9, 3) := by decide +kernel
theorem dX11_cut_67 : decode cX11_cut 67 = .ok (.iinc 1 1, 3) := by decide +kernel
theorem dX11_cut_70 : decode cX11_cut 70 = .ok (.goto 221, 3) := by decide +kernel
theorem dX11_cut_73 : decode cX11_cut 73 = .ok (.iload_n 2, 1) := by decide +kernel
theorem dX11_cut_74 : decode cX11_cut 74 = .ok (.invokestatic 216, 3) := by decide +kernel
theorem dX11_cut_77 : decode cX11_cut 77 = .ok (.ifCond .eq 119, 3) := by decide +kernel
theorem dX11_cut_80 : decode cX11_cut 80 = .ok (.iconst 0, 1) := by decide +kernel
theorem dX11_cut_81 : decode cX11_cut 81 = .ok (.istore_n 3, 1) := by decide +kernel
theorem dX11_cut_82 : decode cX11_cut 82 = .ok (.lconst 0, 1) := by decide +kernel
theorem dX11_cut_83 : decode cX11_cut 83 = .ok (.lstore 4, 2) := by decide +kernel
theorem dX11_cut_85 : decode cX11_cut 85 = .ok (.aload_n 0, 1) := by decide +kernel
theorem dX11_cut_86 : decode cX11_cut 86 = .ok (.iload_n 1, 1) := by decide +kernel
theorem dX11_cut_87 : decode cX11_cut 87 = .ok (.iload_n 3, 1) := by decide +kernel
theorem dX11_cut_88 : decode cX11_cut 88 = .ok (.iadd, 1) := by decide +kernel
theorem dX11_cut_89 : decode cX11_cut 89 = .ok (.invokevirtual 208, 3) := by decide +kernel
theorem dX11_cut_92 : decode cX11_cut 92 = .ok (.invokestatic 216, 3) := by decide +kernel
theorem dX11_cut_95 : decode cX11_cut 95 = .ok (.ifCond .eq 29, 3) := by decide +kernel
theorem dX11_cut_98 : decode cX11_cut 98 = .ok (.iload_n 3, 1) := by decide +kernel
theorem dX11_cut_99 : decode cX11_cut 99 = .ok (.bipush 8, 2) := by decide +kernel
theorem dX11_cut_101 : decode cX11_cut 101 = .ok (.if_icmp .ge 17, 3) := by decide +kernel
theorem dX11_cut_104 : decode cX11_cut 104 = .ok (.lload 4, 2) := by decide +kernel
theorem dX11_cut_106 : decode cX11_cut 106 = .ok (.aload_n 0, 1) := by decide +kernel
theorem dX11_cut_107 : decode cX11_cut 107 = .ok (.iload_n 1, 1) := by decide +kernel
theorem dX11_cut_108 : decode cX11_cut 108 = .ok (.iload_n 3, 1) := by decide +kernel
theorem dX11_cut_109 : decode cX11_cut 109 = .ok (.iadd, 1) := by decide +kernel
theorem dX11_cut_110 : decode cX11_cut 110 = .ok (.invokevirtual 208, 3) := by decide +kernel
theorem dX11_cut_113 : decode cX11_cut 113 = .ok (.invokestatic 201, 3) := by decide +kernel
theorem dX11_cut_116 : decode cX11_cut 116 = .ok (.lstore 4, 2) := by decide +kernel
theorem dX11_cut_118 : decode cX11_cut 118 = .ok (.iinc 3 1, 3) := by decide +kernel
theorem dX11_cut_121 : decode cX11_cut 121 = .ok (.goto (-36), 3) := by decide +kernel
theorem dX11_cut_124 : decode cX11_cut 124 = .ok (.iload_n 3, 1) := by decide +kernel
theorem dX11_cut_125 : decode cX11_cut 125 = .ok (.bipush 8, 2) := by decide +kernel
theorem dX11_cut_127 : decode cX11_cut 127 = .ok (.if_icmp .le 7, 3) := by decide +kernel
theorem dX11_cut_130 : decode cX11_cut 130 = .ok (.iconst 3, 1) := by decide +kernel
theorem dX11_cut_131 : decode cX11_cut 131 = .ok (.goto 4, 3) := by decide +kernel
theorem dX11_cut_134 : decode cX11_cut 134 = .ok (.iconst 1, 1) := by decide +kernel
theorem dX11_cut_135 : decode cX11_cut 135 = .ok (.istore 6, 2) := by decide +kernel
theorem dX11_cut_137 : decode cX11_cut 137 = .ok (.iload_n 3, 1) := by decide +kernel
theorem dX11_cut_138 : decode cX11_cut 138 = .ok (.bipush 8, 2) := by decide +kernel
theorem dX11_cut_140 : decode cX11_cut 140 = .ok (.if_icmp .gt 39, 3) := by decide +kernel
theorem dX11_cut_143 : decode cX11_cut 143 = .ok (.iconst 0, 1) := by decide +kernel
theorem dX11_cut_144 : decode cX11_cut 144 = .ok (.istore 7, 2) := by decide +kernel
theorem dX11_cut_146 : decode cX11_cut 146 = .ok (.iload 7, 2) := by decide +kernel
theorem dX11_cut_148 : decode cX11_cut 148 = .ok (.bipush 26, 2) := by decide +kernel
theorem dX11_cut_150 : decode cX11_cut 150 = .ok (.if_icmp .ge 29, 3) := by decide +kernel
theorem dX11_cut_153 : decode cX11_cut 153 = .ok (.aload_n 0, 1) := by decide +kernel
theorem dX11_cut_154 : decode cX11_cut 154 = .ok (.getfield 34, 3) := by decide +kernel
theorem dX11_cut_157 : decode cX11_cut 157 = .ok (.iload 7, 2) := by decide +kernel
theorem dX11_cut_159 : decode cX11_cut 159 = .ok (.laload, 1) := by decide +kernel
theorem dX11_cut_160 : decode cX11_cut 160 = .ok (.lload 4, 2) := by decide +kernel
theorem dX11_cut_162 : decode cX11_cut 162 = .ok (.lcmp, 1) := by decide +kernel
theorem dX11_cut_163 : decode cX11_cut 163 = .ok (.ifCond .ne 10, 3) := by decide +kernel
theorem dX11_cut_166 : decode cX11_cut 166 = .ok (.bipush 20, 2) := by decide +kernel
theorem dX11_cut_168 : decode cX11_cut 168 = .ok (.iload 7, 2) := by decide +kernel
theorem dX11_cut_170 : decode cX11_cut 170 = .ok (.iadd, 1) := by decide +kernel
theorem dX11_cut_171 : decode cX11_cut 171 = .ok (.istore 6, 2) := by decide +kernel
theorem dX11_cut_173 : decode cX11_cut 173 = .ok (.iinc 7 1, 3) := by decide +kernel
theorem dX11_cut_176 : decode cX11_cut 176 = .ok (.goto (-30), 3) := by decide +kernel
theorem dX11_cut_179 : decode cX11_cut 179 = .ok (.aload_n 0, 1) := by decide +kernel
theorem dX11_cut_180 : decode cX11_cut 180 = .ok (.iload 6, 2) := by decide +kernel
theorem dX11_cut_182 : decode cX11_cut 182 = .ok (.iload_n 1, 1) := by decide +kernel
theorem dX11_cut_183 : decode cX11_cut 183 = .ok (.iconst 0, 1) := by decide +kernel
theorem dX11_cut_184 : decode cX11_cut 184 = .ok (.lload 4, 2) := by decide +kernel
theorem dX11_cut_186 : decode cX11_cut 186 = .ok (.invokevirtual 212, 3) := by decide +kernel
theorem dX11_cut_189 : decode cX11_cut 189 = .ok (.iload_n 1, 1) := by decide +kernel
theorem dX11_cut_190 : decode cX11_cut 190 = .ok (.iload_n 3, 1) := by decide +kernel
theorem dX11_cut_191 : decode cX11_cut 191 = .ok (.iadd, 1) := by decide +kernel
theorem dX11_cut_192 : decode cX11_cut 192 = .ok (.istore_n 1, 1) := by decide +kernel
theorem dX11_cut_193 : decode cX11_cut 193 = .ok (.goto 98, 3) := by decide +kernel
theorem dX11_cut_196 : decode cX11_cut 196 = .ok (.iload_n 2, 1) := by decide +kernel
theorem dX11_cut_197 : decode cX11_cut 197 = .ok (.invokestatic 220, 3) := by decide +kernel
theorem dX11_cut_200 : decode cX11_cut 200 = .ok (.ifCond .eq 75, 3) := by decide +kernel
theorem dX11_cut_203 : decode cX11_cut 203 = .ok (.iconst 0, 1) := by decide +kernel
theorem dX11_cut_204 : decode cX11_cut 204 = .ok (.istore_n 3, 1) := by decide +kernel
theorem dX11_cut_205 : decode cX11_cut 205 = .ok (.iconst 0, 1) := by decide +kernel
theorem dX11_cut_206 : decode cX11_cut 206 = .ok (.istore 4, 2) := by decide +kernel
theorem dX11_cut_208 : decode cX11_cut 208 = .ok (.aload_n 0, 1) := by decide +kernel
theorem dX11_cut_209 : decode cX11_cut 209 = .ok (.iload_n 1, 1) := by decide +kernel
theorem dX11_cut_210 : decode cX11_cut 210 = .ok (.iload_n 3, 1) := by decide +kernel
theorem dX11_cut_211 : decode cX11_cut 211 = .ok (.iadd, 1) := by decide +kernel
theorem dX11_cut_212 : decode cX11_cut 212 = .ok (.invokevirtual 208, 3) := by decide +kernel
theorem dX11_cut_215 : decode cX11_cut 215 = .ok (.invokestatic 220, 3) := by decide +kernel
theorem dX11_cut_218 : decode cX11_cut 218 = .ok (.ifCond .eq 32, 3) := by decide +kernel
theorem dX11_cut_221 : decode cX11_cut 221 = .ok (.iload_n 3, 1) := by decide +kernel
theorem dX11_cut_222 : decode cX11_cut 222 = .ok (.iconst 4, 1) := by decide +kernel
theorem dX11_cut_223 : decode cX11_cut 223 = .ok (.if_icmp .ge 21, 3) := by decide +kernel
theorem dX11_cut_226 : decode cX11_cut 226 = .ok (.bipush 10, 2) := by decide +kernel
theorem dX11_cut_228 : decode cX11_cut 228 = .ok (.iload 4, 2) := by decide +kernel
theorem dX11_cut_230 : decode cX11_cut 230 = .ok (.imul, 1) := by decide +kernel
theorem dX11_cut_231 : decode cX11_cut 231 = .ok (.aload_n 0, 1) := by decide +kernel
theorem dX11_cut_232 : decode cX11_cut 232 = .ok (.iload_n 1, 1) := by decide +kernel
theorem dX11_cut_233 : decode cX11_cut 233 = .ok (.iload_n 3, 1) := by decide +kernel
theorem dX11_cut_234 : decode cX11_cut 234 = .ok (.iadd, 1) := by decide +kernel
theorem dX11_cut_235 : decode cX11_cut 235 = .ok (.invokevirtual 208, 3) := by decide +kernel
theorem dX11_cut_238 : decode cX11_cut 238 = .ok (.iadd, 1) := by decide +kernel
theorem dX11_cut_239 : decode cX11_cut 239 = .ok (.bipush 48, 2) := by decide +kernel
theorem dX11_cut_241 : decode cX11_cut 241 = .ok (.isub, 1) := by decide +kernel
theorem dX11_cut_242 : decode cX11_cut 242 = .ok (.istore 4, 2) := by decide +kernel
theorem dX11_cut_244 : decode cX11_cut 244 = .ok (.iinc 3 1, 3) := by decide +kernel
theorem dX11_cut_247 : decode cX11_cut 247 = .ok (.goto (-39), 3) := by decide +kernel
theorem dX11_cut_250 : decode cX11_cut 250 = .ok (.aload_n 0, 1) := by decide +kernel
theorem dX11_cut_251 : decode cX11_cut 251 = .ok (.iload_n 3, 1) := by decide +kernel
theorem dX11_cut_252 : decode cX11_cut 252 = .ok (.iconst 4, 1) := by decide +kernel
theorem dX11_cut_253 : decode cX11_cut 253 = .ok (.if_icmp .le 7, 3) := by decide +kernel
theorem dX11_cut_256 : decode cX11_cut 256 = .ok (.iconst 3, 1) := by decide +kernel
theorem dX11_cut_257 : decode cX11_cut 257 = .ok (.goto 4, 3) := by decide +kernel
theorem dX11_cut_260 : decode cX11_cut 260 = .ok (.iconst 2, 1) := by decide +kernel
theorem dX11_cut_261 : decode cX11_cut 261 = .ok (.iload_n 1, 1) := by decide +kernel
theorem dX11_cut_262 : decode cX11_cut 262 = .ok (.iload 4, 2) := by decide +kernel
theorem dX11_cut_264 : decode cX11_cut 264 = .ok (.lconst 0, 1) := by decide +kernel
theorem dX11_cut_265 : decode cX11_cut 265 = .ok (.invokevirtual 212, 3) := by decide +kernel
theorem dX11_cut_268 : decode cX11_cut 268 = .ok (.iload_n 1, 1) := by decide +kernel
theorem dX11_cut_269 : decode cX11_cut 269 = .ok (.iload_n 3, 1) := by decide +kernel
theorem dX11_cut_270 : decode cX11_cut 270 = .ok (.iadd, 1) := by decide +kernel
theorem dX11_cut_271 : decode cX11_cut 271 = .ok (.istore_n 1, 1) := by decide +kernel
theorem dX11_cut_272 : decode cX11_cut 272 = .ok (.goto 19, 3) := by decide +kernel
theorem dX11_cut_275 : decode cX11_cut 275 = .ok (.iload_n 1, 1) := by decide +kernel
theorem dX11_cut_276 : decode cX11_cut 276 = .ok (.aload_n 0, 1) := by decide +kernel
theorem dX11_cut_277 : decode cX11_cut 277 = .ok (.iload_n 1, 1) := by decide +kernel
theorem dX11_cut_278 : decode cX11_cut 278 = .ok (.iload_n 2, 1) := by decide +kernel
theorem dX11_cut_279 : decode cX11_cut 279 = .ok (.aload_n 0, 1) := by decide +kernel
theorem dX11_cut_280 : decode cX11_cut 280 = .ok (.iload_n 1, 1) := by decide +kernel
theorem dX11_cut_281 : decode cX11_cut 281 = .ok (.iconst 1, 1) := by decide +kernel
theorem dX11_cut_282 : decode cX11_cut 282 = .ok (.iadd, 1) := by decide +kernel
theorem dX11_cut_283 : decode cX11_cut 283 = .ok (.invokevirtual 208, 3) := by decide +kernel
theorem dX11_cut_286 : decode cX11_cut 286 = .ok (.invokevirtual 223, 3) := by decide +kernel
theorem dX11_cut_289 : decode cX11_cut 289 = .ok (.iadd, 1) := by decide +kernel
theorem dX11_cut_290 : decode cX11_cut 290 = .ok (.istore_n 1, 1) := by decide +kernel
theorem dX11_cut_291 : decode cX11_cut 291 = .ok (.goto (-284), 3) := by decide +kernel
theorem dX11_cut_294 : decode cX11_cut 294 = .ok (.return_, 1) := by decide +kernel
theorem dX11_sign_0 : decode cX11_sign 0 = .ok (.iload_n 2, 1) := by decide +kernel
theorem dX11_sign_1 : decode cX11_sign 1 = .ok (.bipush 59, 2) := by decide +kernel
theorem dX11_sign_3 : decode cX11_sign 3 = .ok (.if_icmp .ne 7, 3) := by decide +kernel
theorem dX11_sign_6 : decode cX11_sign 6 = .ok (.iconst 4, 1) := by decide +kernel
theorem dX11_sign_7 : decode cX11_sign 7 = .ok (.goto 36, 3) := by decide +kernel
theorem dX11_sign_10 : decode cX11_sign 10 = .ok (.iload_n 2, 1) := by decide +kernel
theorem dX11_sign_11 : decode cX11_sign 11 = .ok (.bipush 61, 2) := by decide +kernel
theorem dX11_sign_13 : decode cX11_sign 13 = .ok (.if_icmp .ne 7, 3) := by decide +kernel
theorem dX11_sign_16 : decode cX11_sign 16 = .ok (.iconst 5, 1) := by decide +kernel
theorem dX11_sign_17 : decode cX11_sign 17 = .ok (.goto 26, 3) := by decide +kernel
theorem dX11_sign_20 : decode cX11_sign 20 = .ok (.iload_n 2, 1) := by decide +kernel
theorem dX11_sign_21 : decode cX11_sign 21 = .ok (.bipush 40, 2) := by decide +kernel
theorem dX11_sign_23 : decode cX11_sign 23 = .ok (.if_icmp .ne 8, 3) := by decide +kernel
theorem dX11_sign_26 : decode cX11_sign 26 = .ok (.bipush 6, 2) := by decide +kernel
theorem dX11_sign_28 : decode cX11_sign 28 = .ok (.goto 15, 3) := by decide +kernel
theorem dX11_sign_31 : decode cX11_sign 31 = .ok (.iload_n 2, 1) := by decide +kernel
theorem dX11_sign_32 : decode cX11_sign 32 = .ok (.bipush 41, 2) := by decide +kernel
theorem dX11_sign_34 : decode cX11_sign 34 = .ok (.if_icmp .ne 8, 3) := by decide +kernel
theorem dX11_sign_37 : decode cX11_sign 37 = .ok (.bipush 7, 2) := by decide +kernel
theorem dX11_sign_39 : decode cX11_sign 39 = .ok (.goto 4, 3) := by decide +kernel
theorem dX11_sign_42 : decode cX11_sign 42 = .ok (.iconst 3, 1) := by decide +kernel
theorem dX11_sign_43 : decode cX11_sign 43 = .ok (.istore 4, 2) := by decide +kernel
theorem dX11_sign_45 : decode cX11_sign 45 = .ok (.iload_n 2, 1) := by decide +kernel
theorem dX11_sign_46 : decode cX11_sign 46 = .ok (.bipush 43, 2) := by decide +kernel
theorem dX11_sign_48 : decode cX11_sign 48 = .ok (.if_icmp .ne 7, 3) := by decide +kernel
theorem dX11_sign_51 : decode cX11_sign 51 = .ok (.bipush 8, 2) := by decide +kernel
theorem dX11_sign_53 : decode cX11_sign 53 = .ok (.istore 4, 2) := by decide +kernel
theorem dX11_sign_55 : decode cX11_sign 55 = .ok (.iload_n 2, 1) := by decide +kernel
theorem dX11_sign_56 : decode cX11_sign 56 = .ok (.bipush 45, 2) := by decide +kernel
theorem dX11_sign_58 : decode cX11_sign 58 = .ok (.if_icmp .ne 7, 3) := by decide +kernel
theorem dX11_sign_61 : decode cX11_sign 61 = .ok (.bipush 9, 2) := by decide +kernel
theorem dX11_sign_63 : decode cX11_sign 63 = .ok (.istore 4, 2) := by decide +kernel
theorem dX11_sign_65 : decode cX11_sign 65 = .ok (.iload_n 2, 1) := by decide +kernel
theorem dX11_sign_66 : decode cX11_sign 66 = .ok (.bipush 42, 2) := by decide +kernel
theorem dX11_sign_68 : decode cX11_sign 68 = .ok (.if_icmp .ne 7, 3) := by decide +kernel
theorem dX11_sign_71 : decode cX11_sign 71 = .ok (.bipush 10, 2) := by decide +kernel
theorem dX11_sign_73 : decode cX11_sign 73 = .ok (.istore 4, 2) := by decide +kernel
theorem dX11_sign_75 : decode cX11_sign 75 = .ok (.iload_n 2, 1) := by decide +kernel
theorem dX11_sign_76 : decode cX11_sign 76 = .ok (.bipush 47, 2) := by decide +kernel
theorem dX11_sign_78 : decode cX11_sign 78 = .ok (.if_icmp .ne 7, 3) := by decide +kernel
theorem dX11_sign_81 : decode cX11_sign 81 = .ok (.bipush 15, 2) := by decide +kernel
theorem dX11_sign_83 : decode cX11_sign 83 = .ok (.istore 4, 2) := by decide +kernel
theorem dX11_sign_85 : decode cX11_sign 85 = .ok (.iload_n 2, 1) := by decide +kernel
theorem dX11_sign_86 : decode cX11_sign 86 = .ok (.bipush 60, 2) := by decide +kernel
theorem dX11_sign_88 : decode cX11_sign 88 = .ok (.if_icmp .ne 7, 3) := by decide +kernel
theorem dX11_sign_91 : decode cX11_sign 91 = .ok (.bipush 13, 2) := by decide +kernel
theorem dX11_sign_93 : decode cX11_sign 93 = .ok (.istore 4, 2) := by decide +kernel
theorem dX11_sign_95 : decode cX11_sign 95 = .ok (.aload_n 0, 1) := by decide +kernel
theorem dX11_sign_96 : decode cX11_sign 96 = .ok (.iload 4, 2) := by decide +kernel
theorem dX11_sign_98 : decode cX11_sign 98 = .ok (.iload_n 1, 1) := by decide +kernel
theorem dX11_sign_99 : decode cX11_sign 99 = .ok (.iconst 0, 1) := by decide +kernel
theorem dX11_sign_100 : decode cX11_sign 100 = .ok (.lconst 0, 1) := by decide +kernel
theorem dX11_sign_101 : decode cX11_sign 101 = .ok (.invokevirtual 212, 3) := by decide +kernel
theorem dX11_sign_104 : decode cX11_sign 104 = .ok (.iconst 1, 1) := by decide +kernel
theorem dX11_sign_105 : decode cX11_sign 105 = .ok (.ireturn, 1) := by decide +kernel
theorem dX11_is_0 : decode cX11_is 0 = .ok (.aload_n 0, 1) := by decide +kernel
theorem dX11_is_1 : decode cX11_is 1 = .ok (.getfield 227, 3) := by decide +kernel
theorem dX11_is_4 : decode cX11_is 4 = .ok (.ifCond .ne 20, 3) := by decide +kernel
theorem dX11_is_7 : decode cX11_is 7 = .ok (.aload_n 0, 1) := by decide +kernel
theorem dX11_is_8 : decode cX11_is 8 = .ok (.getfield 20, 3) := by decide +kernel
theorem dX11_is_11 : decode cX11_is 11 = .ok (.aload_n 0, 1) := by decide +kernel
theorem dX11_is_12 : decode cX11_is 12 = .ok (.getfield 230, 3) := by decide +kernel
theorem dX11_is_15 : decode cX11_is 15 = .ok (.iaload, 1) := by decide +kernel
theorem dX11_is_16 : decode cX11_is 16 = .ok (.iload_n 1, 1) := by decide +kernel
theorem dX11_is_17 : decode cX11_is 17 = .ok (.if_icmp .ne 7, 3) := by decide +kernel
theorem dX11_is_20 : decode cX11_is 20 = .ok (.iconst 1, 1) := by decide +kernel
theorem dX11_is_21 : decode cX11_is 21 = .ok (.goto 4, 3) := by decide +kernel
theorem dX11_is_24 : decode cX11_is 24 = .ok (.iconst 0, 1) := by decide +kernel
theorem dX11_is_25 : decode cX11_is 25 = .ok (.ireturn, 1) := by decide +kernel
theorem dX11_fail_0 : decode cX11_fail 0 = .ok (.aload_n 0, 1) := by decide +kernel
theorem dX11_fail_1 : decode cX11_fail 1 = .ok (.getfield 227, 3) := by decide +kernel
theorem dX11_fail_4 : decode cX11_fail 4 = .ok (.ifCond .le 4, 3) := by decide +kernel
theorem dX11_fail_7 : decode cX11_fail 7 = .ok (.return_, 1) := by decide +kernel
theorem dX11_fail_8 : decode cX11_fail 8 = .ok (.aload_n 0, 1) := by decide +kernel
theorem dX11_fail_9 : decode cX11_fail 9 = .ok (.iload_n 1, 1) := by decide +kernel
theorem dX11_fail_10 : decode cX11_fail 10 = .ok (.putfield 227, 3) := by decide +kernel
theorem dX11_fail_13 : decode cX11_fail 13 = .ok (.aload_n 0, 1) := by decide +kernel
theorem dX11_fail_14 : decode cX11_fail 14 = .ok (.aload_n 0, 1) := by decide +kernel
theorem dX11_fail_15 : decode cX11_fail 15 = .ok (.getfield 24, 3) := by decide +kernel
theorem dX11_fail_18 : decode cX11_fail 18 = .ok (.aload_n 0, 1) := by decide +kernel
theorem dX11_fail_19 : decode cX11_fail 19 = .ok (.getfield 230, 3) := by decide +kernel
theorem dX11_fail_22 : decode cX11_fail 22 = .ok (.iaload, 1) := by decide +kernel
theorem dX11_fail_23 : decode cX11_fail 23 = .ok (.putfield 233, 3) := by decide +kernel
theorem dX11_fail_26 : decode cX11_fail 26 = .ok (.return_, 1) := by decide +kernel
theorem dX11_wrong_0 : decode cX11_wrong 0 = .ok (.aload_n 0, 1) := by decide +kernel
theorem dX11_wrong_1 : decode cX11_wrong 1 = .ok (.getfield 24, 3) := by decide +kernel
theorem dX11_wrong_4 : decode cX11_wrong 4 = .ok (.iload_n 2, 1) := by decide +kernel
theorem dX11_wrong_5 : decode cX11_wrong 5 = .ok (.iaload, 1) := by decide +kernel
theorem dX11_wrong_6 : decode cX11_wrong 6 = .ok (.istore_n 3, 1) := by decide +kernel
theorem dX11_wrong_7 : decode cX11_wrong 7 = .ok (.aload_n 0, 1) := by decide +kernel
theorem dX11_wrong_8 : decode cX11_wrong 8 = .ok (.getfield 227, 3) := by decide +kernel
theorem dX11_wrong_11 : decode cX11_wrong 11 = .ok (.ifCond .gt 34, 3) := by decide +kernel
theorem dX11_wrong_14 : decode cX11_wrong 14 = .ok (.aload_n 0, 1) := by decide +kernel
theorem dX11_wrong_15 : decode cX11_wrong 15 = .ok (.getfield 236, 3) := by decide +kernel
theorem dX11_wrong_18 : decode cX11_wrong 18 = .ok (.ifCond .eq 28, 3) := by decide +kernel
theorem dX11_wrong_21 : decode cX11_wrong 21 = .ok (.iload_n 3, 1) := by decide +kernel
theorem dX11_wrong_22 : decode cX11_wrong 22 = .ok (.aload_n 0, 1) := by decide +kernel
theorem dX11_wrong_23 : decode cX11_wrong 23 = .ok (.getfield 239, 3) := by decide +kernel
theorem dX11_wrong_26 : decode cX11_wrong 26 = .ok (.if_icmp .gt 19, 3) := by decide +kernel
theorem dX11_wrong_29 : decode cX11_wrong 29 = .ok (.iload_n 3, 1) := by decide +kernel
theorem dX11_wrong_30 : decode cX11_wrong 30 = .ok (.aload_n 0, 1) := by decide +kernel
theorem dX11_wrong_31 : decode cX11_wrong 31 = .ok (.getfield 239, 3) := by decide +kernel
theorem dX11_wrong_34 : decode cX11_wrong 34 = .ok (.if_icmp .ne 12, 3) := by decide +kernel
theorem dX11_wrong_37 : decode cX11_wrong 37 = .ok (.iload_n 1, 1) := by decide +kernel
theorem dX11_wrong_38 : decode cX11_wrong 38 = .ok (.aload_n 0, 1) := by decide +kernel
theorem dX11_wrong_39 : decode cX11_wrong 39 = .ok (.getfield 236, 3) := by decide +kernel
theorem dX11_wrong_42 : decode cX11_wrong 42 = .ok (.if_icmp .lt 4, 3) := by decide +kernel
theorem dX11_wrong_45 : decode cX11_wrong 45 = .ok (.return_, 1) := by decide +kernel
theorem dX11_wrong_46 : decode cX11_wrong 46 = .ok (.aload_n 0, 1) := by decide +kernel
theorem dX11_wrong_47 : decode cX11_wrong 47 = .ok (.iload_n 1, 1) := by decide +kernel
theorem dX11_wrong_48 : decode cX11_wrong 48 = .ok (.putfield 236, 3) := by decide +kernel
theorem dX11_wrong_51 : decode cX11_wrong 51 = .ok (.aload_n 0, 1) := by decide +kernel
theorem dX11_wrong_52 : decode cX11_wrong 52 = .ok (.iload_n 3, 1) := by decide +kernel
theorem dX11_wrong_53 : decode cX11_wrong 53 = .ok (.putfield 239, 3) := by decide +kernel
theorem dX11_wrong_56 : decode cX11_wrong 56 = .ok (.return_, 1) := by decide +kernel
theorem dX11_goesOn_0 : decode cX11_goesOn 0 = .ok (.aload_n 0, 1) := by decide +kernel
theorem dX11_goesOn_1 : decode cX11_goesOn 1 = .ok (.getfield 230, 3) := by decide +kernel
theorem dX11_goesOn_4 : decode cX11_goesOn 4 = .ok (.sipush 400, 3) := by decide +kernel
theorem dX11_goesOn_7 : decode cX11_goesOn 7 = .ok (.if_icmp .ne 11, 3) := by decide +kernel
theorem dX11_goesOn_10 : decode cX11_goesOn 10 = .ok (.aload_n 0, 1) := by decide +kernel
theorem dX11_goesOn_11 : decode cX11_goesOn 11 = .ok (.iconst 2, 1) := by decide +kernel
theorem dX11_goesOn_12 : decode cX11_goesOn 12 = .ok (.invokevirtual 242, 3) := by decide +kernel
theorem dX11_goesOn_15 : decode cX11_goesOn 15 = .ok (.goto 13, 3) := by decide +kernel
theorem dX11_goesOn_18 : decode cX11_goesOn 18 = .ok (.aload_n 0, 1) := by decide +kernel
theorem dX11_goesOn_19 : decode cX11_goesOn 19 = .ok (.dup, 1) := by decide +kernel
theorem dX11_goesOn_20 : decode cX11_goesOn 20 = .ok (.getfield 230, 3) := by decide +kernel
theorem dX11_goesOn_23 : decode cX11_goesOn 23 = .ok (.iconst 1, 1) := by decide +kernel
theorem dX11_goesOn_24 : decode cX11_goesOn 24 = .ok (.iadd, 1) := by decide +kernel
theorem dX11_goesOn_25 : decode cX11_goesOn 25 = .ok (.putfield 230, 3) := by decide +kernel
theorem dX11_goesOn_28 : decode cX11_goesOn 28 = .ok (.return_, 1) := by decide +kernel
theorem dX11_must_0 : decode cX11_must 0 = .ok (.aload_n 0, 1) := by decide +kernel
theorem dX11_must_1 : decode cX11_must 1 = .ok (.iload_n 1, 1) := by decide +kernel
theorem dX11_must_2 : decode cX11_must 2 = .ok (.invokevirtual 245, 3) := by decide +kernel
theorem dX11_must_5 : decode cX11_must 5 = .ok (.ifCond .eq 10, 3) := by decide +kernel
theorem dX11_must_8 : decode cX11_must 8 = .ok (.aload_n 0, 1) := by decide +kernel
theorem dX11_must_9 : decode cX11_must 9 = .ok (.invokevirtual 248, 3) := by decide +kernel
theorem dX11_must_12 : decode cX11_must 12 = .ok (.goto 8, 3) := by decide +kernel
theorem dX11_must_15 : decode cX11_must 15 = .ok (.aload_n 0, 1) := by decide +kernel
theorem dX11_must_16 : decode cX11_must 16 = .ok (.iconst 1, 1) := by decide +kernel
theorem dX11_must_17 : decode cX11_must 17 = .ok (.invokevirtual 242, 3) := by decide +kernel
theorem dX11_must_20 : decode cX11_must 20 = .ok (.return_, 1) := by decide +kernel
theorem dX11_plain_0 : decode cX11_plain 0 = .ok (.aload_n 0, 1) := by decide +kernel
theorem dX11_plain_1 : decode cX11_plain 1 = .ok (.getfield 46, 3) := by decide +kernel
theorem dX11_plain_4 : decode cX11_plain 4 = .ok (.iload_n 1, 1) := by decide +kernel
theorem dX11_plain_5 : decode cX11_plain 5 = .ok (.iconst 0, 1) := by decide +kernel
theorem dX11_plain_6 : decode cX11_plain 6 = .ok (.iastore, 1) := by decide +kernel
theorem dX11_plain_7 : decode cX11_plain 7 = .ok (.aload_n 0, 1) := by decide +kernel
theorem dX11_plain_8 : decode cX11_plain 8 = .ok (.getfield 49, 3) := by decide +kernel
theorem dX11_plain_11 : decode cX11_plain 11 = .ok (.iload_n 1, 1) := by decide +kernel
theorem dX11_plain_12 : decode cX11_plain 12 = .ok (.iconst 0, 1) := by decide +kernel
theorem dX11_plain_13 : decode cX11_plain 13 = .ok (.iastore, 1) := by decide +kernel
theorem dX11_plain_14 : decode cX11_plain 14 = .ok (.aload_n 0, 1) := by decide +kernel
theorem dX11_plain_15 : decode cX11_plain 15 = .ok (.getfield 58, 3) := by decide +kernel
theorem dX11_plain_18 : decode cX11_plain 18 = .ok (.iload_n 1, 1) := by decide +kernel
theorem dX11_plain_19 : decode cX11_plain 19 = .ok (.iconst 0, 1) := by decide +kernel
theorem dX11_plain_20 : decode cX11_plain 20 = .ok (.iastore, 1) := by decide +kernel
theorem dX11_plain_21 : decode cX11_plain 21 = .ok (.aload_n 0, 1) := by decide +kernel
theorem dX11_plain_22 : decode cX11_plain 22 = .ok (.getfield 70, 3) := by decide +kernel
theorem dX11_plain_25 : decode cX11_plain 25 = .ok (.iload_n 1, 1) := by decide +kernel
theorem dX11_plain_26 : decode cX11_plain 26 = .ok (.iconst 0, 1) := by decide +kernel
theorem dX11_plain_27 : decode cX11_plain 27 = .ok (.iastore, 1) := by decide +kernel
theorem dX11_plain_28 : decode cX11_plain 28 = .ok (.aload_n 0, 1) := by decide +kernel
theorem dX11_plain_29 : decode cX11_plain 29 = .ok (.getfield 88, 3) := by decide +kernel
theorem dX11_plain_32 : decode cX11_plain 32 = .ok (.iload_n 1, 1) := by decide +kernel
theorem dX11_plain_33 : decode cX11_plain 33 = .ok (.iconst 0, 1) := by decide +kernel
theorem dX11_plain_34 : decode cX11_plain 34 = .ok (.iastore, 1) := by decide +kernel
theorem dX11_plain_35 : decode cX11_plain 35 = .ok (.aload_n 0, 1) := by decide +kernel
theorem dX11_plain_36 : decode cX11_plain 36 = .ok (.getfield 91, 3) := by decide +kernel
theorem dX11_plain_39 : decode cX11_plain 39 = .ok (.iload_n 1, 1) := by decide +kernel
theorem dX11_plain_40 : decode cX11_plain 40 = .ok (.iconst 0, 1) := by decide +kernel
theorem dX11_plain_41 : decode cX11_plain 41 = .ok (.iastore, 1) := by decide +kernel
theorem dX11_plain_42 : decode cX11_plain 42 = .ok (.iconst 0, 1) := by decide +kernel
theorem dX11_plain_43 : decode cX11_plain 43 = .ok (.istore_n 2, 1) := by decide +kernel
theorem dX11_plain_44 : decode cX11_plain 44 = .ok (.iload_n 2, 1) := by decide +kernel
theorem dX11_plain_45 : decode cX11_plain 45 = .ok (.iconst 3, 1) := by decide +kernel
theorem dX11_plain_46 : decode cX11_plain 46 = .ok (.if_icmp .ge 31, 3) := by decide +kernel
theorem dX11_plain_49 : decode cX11_plain 49 = .ok (.aload_n 0, 1) := by decide +kernel
theorem dX11_plain_50 : decode cX11_plain 50 = .ok (.getfield 94, 3) := by decide +kernel
theorem dX11_plain_53 : decode cX11_plain 53 = .ok (.iconst 3, 1) := by decide +kernel
theorem dX11_plain_54 : decode cX11_plain 54 = .ok (.iload_n 1, 1) := by decide +kernel
theorem dX11_plain_55 : decode cX11_plain 55 = .ok (.imul, 1) := by decide +kernel
theorem dX11_plain_56 : decode cX11_plain 56 = .ok (.iload_n 2, 1) := by decide +kernel
theorem dX11_plain_57 : decode cX11_plain 57 = .ok (.iadd, 1) := by decide +kernel
theorem dX11_plain_58 : decode cX11_plain 58 = .ok (.iconst 0, 1) := by decide +kernel
theorem dX11_plain_59 : decode cX11_plain 59 = .ok (.iastore, 1) := by decide +kernel
theorem dX11_plain_60 : decode cX11_plain 60 = .ok (.aload_n 0, 1) := by decide +kernel
theorem dX11_plain_61 : decode cX11_plain 61 = .ok (.getfield 97, 3) := by decide +kernel
theorem dX11_plain_64 : decode cX11_plain 64 = .ok (.iconst 3, 1) := by decide +kernel
theorem dX11_plain_65 : decode cX11_plain 65 = .ok (.iload_n 1, 1) := by decide +kernel
theorem dX11_plain_66 : decode cX11_plain 66 = .ok (.imul, 1) := by decide +kernel
theorem dX11_plain_67 : decode cX11_plain 67 = .ok (.iload_n 2, 1) := by decide +kernel
theorem dX11_plain_68 : decode cX11_plain 68 = .ok (.iadd, 1) := by decide +kernel
theorem dX11_plain_69 : decode cX11_plain 69 = .ok (.iconst 0, 1) := by decide +kernel
theorem dX11_plain_70 : decode cX11_plain 70 = .ok (.iastore, 1) := by decide +kernel
theorem dX11_plain_71 : decode cX11_plain 71 = .ok (.iinc 2 1, 3) := by decide +kernel
theorem dX11_plain_74 : decode cX11_plain 74 = .ok (.goto (-30), 3) := by decide +kernel
theorem dX11_plain_77 : decode cX11_plain 77 = .ok (.return_, 1) := by decide +kernel
theorem dX11_read_0 : decode cX11_read 0 = .ok (.aload_n 0, 1) := by decide +kernel
theorem dX11_read_1 : decode cX11_read 1 = .ok (.aload_n 0, 1) := by decide +kernel
theorem dX11_read_2 : decode cX11_read 2 = .ok (.getfield 190, 3) := by decide +kernel
theorem dX11_read_5 : decode cX11_read 5 = .ok (.putfield 196, 3) := by decide +kernel
theorem dX11_read_8 : decode cX11_read 8 = .ok (.iconst 0, 1) := by decide +kernel
theorem dX11_read_9 : decode cX11_read 9 = .ok (.istore_n 1, 1) := by decide +kernel
theorem dX11_read_10 : decode cX11_read 10 = .ok (.iload_n 1, 1) := by decide +kernel
theorem dX11_read_11 : decode cX11_read 11 = .ok (.aload_n 0, 1) := by decide +kernel
theorem dX11_read_12 : decode cX11_read 12 = .ok (.getfield 196, 3) := by decide +kernel
theorem dX11_read_15 : decode cX11_read 15 = .ok (.if_icmp .ge 21, 3) := by decide +kernel
theorem dX11_read_18 : decode cX11_read 18 = .ok (.aload_n 0, 1) := by decide +kernel
theorem dX11_read_19 : decode cX11_read 19 = .ok (.getfield 17, 3) := by decide +kernel
theorem dX11_read_22 : decode cX11_read 22 = .ok (.iload_n 1, 1) := by decide +kernel
theorem dX11_read_23 : decode cX11_read 23 = .ok (.aload_n 0, 1) := by decide +kernel
theorem dX11_read_24 : decode cX11_read 24 = .ok (.getfield 13, 3) := by decide +kernel
theorem dX11_read_27 : decode cX11_read 27 = .ok (.iload_n 1, 1) := by decide +kernel
theorem dX11_read_28 : decode cX11_read 28 = .ok (.baload, 1) := by decide +kernel
theorem dX11_read_29 : decode cX11_read 29 = .ok (.bastore, 1) := by decide +kernel
theorem dX11_read_30 : decode cX11_read 30 = .ok (.iinc 1 1, 3) := by decide +kernel
theorem dX11_read_33 : decode cX11_read 33 = .ok (.goto (-23), 3) := by decide +kernel
theorem dX11_read_36 : decode cX11_read 36 = .ok (.aload_n 0, 1) := by decide +kernel
theorem dX11_read_37 : decode cX11_read 37 = .ok (.iconst 0, 1) := by decide +kernel
theorem dX11_read_38 : decode cX11_read 38 = .ok (.putfield 190, 3) := by decide +kernel
theorem dX11_read_41 : decode cX11_read 41 = .ok (.aload_n 0, 1) := by decide +kernel
theorem dX11_read_42 : decode cX11_read 42 = .ok (.invokevirtual 251, 3) := by decide +kernel
theorem dX11_read_45 : decode cX11_read 45 = .ok (.aload_n 0, 1) := by decide +kernel
theorem dX11_read_46 : decode cX11_read 46 = .ok (.iconst 0, 1) := by decide +kernel
theorem dX11_read_47 : decode cX11_read 47 = .ok (.putfield 230, 3) := by decide +kernel
theorem dX11_read_50 : decode cX11_read 50 = .ok (.aload_n 0, 1) := by decide +kernel
theorem dX11_read_51 : decode cX11_read 51 = .ok (.iconst 0, 1) := by decide +kernel
theorem dX11_read_52 : decode cX11_read 52 = .ok (.putfield 254, 3) := by decide +kernel
theorem dX11_read_55 : decode cX11_read 55 = .ok (.aload_n 0, 1) := by decide +kernel
theorem dX11_read_56 : decode cX11_read 56 = .ok (.iconst 0, 1) := by decide +kernel
theorem dX11_read_57 : decode cX11_read 57 = .ok (.putfield 227, 3) := by decide +kernel
theorem dX11_read_60 : decode cX11_read 60 = .ok (.aload_n 0, 1) := by decide +kernel
theorem dX11_read_61 : decode cX11_read 61 = .ok (.iconst 0, 1) := by decide +kernel
theorem dX11_read_62 : decode cX11_read 62 = .ok (.putfield 236, 3) := by decide +kernel
theorem dX11_read_65 : decode cX11_read 65 = .ok (.aload_n 0, 1) := by decide +kernel
theorem dX11_read_66 : decode cX11_read 66 = .ok (.iconst 1, 1) := by decide +kernel
theorem dX11_read_67 : decode cX11_read 67 = .ok (.aload_n 0, 1) := by decide +kernel
theorem dX11_read_68 : decode cX11_read 68 = .ok (.getfield 257, 3) := by decide +kernel
theorem dX11_read_71 : decode cX11_read 71 = .ok (.isub, 1) := by decide +kernel
theorem dX11_read_72 : decode cX11_read 72 = .ok (.putfield 260, 3) := by decide +kernel
theorem dX11_read_75 : decode cX11_read 75 = .ok (.aload_n 0, 1) := by decide +kernel
theorem dX11_read_76 : decode cX11_read 76 = .ok (.iconst 0, 1) := by decide +kernel
theorem dX11_read_77 : decode cX11_read 77 = .ok (.putfield 263, 3) := by decide +kernel
theorem dX11_read_80 : decode cX11_read 80 = .ok (.aload_n 0, 1) := by decide +kernel
theorem dX11_read_81 : decode cX11_read 81 = .ok (.aload_n 0, 1) := by decide +kernel
theorem dX11_read_82 : decode cX11_read 82 = .ok (.getfield 260, 3) := by decide +kernel
theorem dX11_read_85 : decode cX11_read 85 = .ok (.invokevirtual 176, 3) := by decide +kernel
theorem dX11_read_88 : decode cX11_read 88 = .ok (.aload_n 0, 1) := by decide +kernel
theorem dX11_read_89 : decode cX11_read 89 = .ok (.sipush 130, 3) := by decide +kernel
theorem dX11_read_92 : decode cX11_read 92 = .ok (.aload_n 0, 1) := by decide +kernel
theorem dX11_read_93 : decode cX11_read 93 = .ok (.getfield 260, 3) := by decide +kernel
theorem dX11_read_96 : decode cX11_read 96 = .ok (.imul, 1) := by decide +kernel
theorem dX11_read_97 : decode cX11_read 97 = .ok (.putfield 266, 3) := by decide +kernel
theorem dX11_read_100 : decode cX11_read 100 = .ok (.aload_n 0, 1) := by decide +kernel
theorem dX11_read_101 : decode cX11_read 101 = .ok (.sipush 420, 3) := by decide +kernel
theorem dX11_read_104 : decode cX11_read 104 = .ok (.aload_n 0, 1) := by decide +kernel
theorem dX11_read_105 : decode cX11_read 105 = .ok (.getfield 260, 3) := by decide +kernel
theorem dX11_read_108 : decode cX11_read 108 = .ok (.imul, 1) := by decide +kernel
theorem dX11_read_109 : decode cX11_read 109 = .ok (.putfield 269, 3) := by decide +kernel
theorem dX11_read_112 : decode cX11_read 112 = .ok (.aload_n 0, 1) := by decide +kernel
theorem dX11_read_113 : decode cX11_read 113 = .ok (.sipush 420, 3) := by decide +kernel
theorem dX11_read_116 : decode cX11_read 116 = .ok (.aload_n 0, 1) := by decide +kernel
theorem dX11_read_117 : decode cX11_read 117 = .ok (.getfield 260, 3) := by decide +kernel
theorem dX11_read_120 : decode cX11_read 120 = .ok (.imul, 1) := by decide +kernel
theorem dX11_read_121 : decode cX11_read 121 = .ok (.putfield 272, 3) := by decide +kernel
theorem dX11_read_124 : decode cX11_read 124 = .ok (.aload_n 0, 1) := by decide +kernel
theorem dX11_read_125 : decode cX11_read 125 = .ok (.getfield 227, 3) := by decide +kernel
theorem dX11_read_128 : decode cX11_read 128 = .ok (.ifCond .ne 18, 3) := by decide +kernel
theorem dX11_read_131 : decode cX11_read 131 = .ok (.aload_n 0, 1) := by decide +kernel
theorem dX11_read_132 : decode cX11_read 132 = .ok (.iconst 0, 1) := by decide +kernel
theorem dX11_read_133 : decode cX11_read 133 = .ok (.invokevirtual 245, 3) := by decide +kernel
theorem dX11_read_136 : decode cX11_read 136 = .ok (.ifCond .ne 10, 3) := by decide +kernel
theorem dX11_read_139 : decode cX11_read 139 = .ok (.aload_n 0, 1) := by decide +kernel
theorem dX11_read_140 : decode cX11_read 140 = .ok (.invokevirtual 275, 3) := by decide +kernel
theorem dX11_read_143 : decode cX11_read 143 = .ok (.goto (-19), 3) := by decide +kernel
theorem dX11_read_146 : decode cX11_read 146 = .ok (.aload_n 0, 1) := by decide +kernel
theorem dX11_read_147 : decode cX11_read 147 = .ok (.aload_n 0, 1) := by decide +kernel
theorem dX11_read_148 : decode cX11_read 148 = .ok (.getfield 227, 3) := by decide +kernel
theorem dX11_read_151 : decode cX11_read 151 = .ok (.ifCond .le 10, 3) := by decide +kernel
theorem dX11_read_154 : decode cX11_read 154 = .ok (.aload_n 0, 1) := by decide +kernel
theorem dX11_read_155 : decode cX11_read 155 = .ok (.getfield 233, 3) := by decide +kernel
theorem dX11_read_158 : decode cX11_read 158 = .ok (.goto 18, 3) := by decide +kernel
theorem dX11_read_161 : decode cX11_read 161 = .ok (.aload_n 0, 1) := by decide +kernel
theorem dX11_read_162 : decode cX11_read 162 = .ok (.getfield 236, 3) := by decide +kernel
theorem dX11_read_165 : decode cX11_read 165 = .ok (.ifCond .le 10, 3) := by decide +kernel
theorem dX11_read_168 : decode cX11_read 168 = .ok (.aload_n 0, 1) := by decide +kernel
theorem dX11_read_169 : decode cX11_read 169 = .ok (.getfield 239, 3) := by decide +kernel
theorem dX11_read_172 : decode cX11_read 172 = .ok (.goto 4, 3) := by decide +kernel
theorem dX11_read_175 : decode cX11_read 175 = .ok (.iconst (-1), 1) := by decide +kernel
theorem dX11_read_176 : decode cX11_read 176 = .ok (.putfield 37, 3) := by decide +kernel
theorem dX11_read_179 : decode cX11_read 179 = .ok (.aload_n 0, 1) := by decide +kernel
theorem dX11_read_180 : decode cX11_read 180 = .ok (.getfield 227, 3) := by decide +kernel
theorem dX11_read_183 : decode cX11_read 183 = .ok (.ifCond .le 8, 3) := by decide +kernel
theorem dX11_read_186 : decode cX11_read 186 = .ok (.aload_n 0, 1) := by decide +kernel
theorem dX11_read_187 : decode cX11_read 187 = .ok (.getfield 227, 3) := by decide +kernel
theorem dX11_read_190 : decode cX11_read 190 = .ok (.ireturn, 1) := by decide +kernel
theorem dX11_read_191 : decode cX11_read 191 = .ok (.aload_n 0, 1) := by decide +kernel
theorem dX11_read_192 : decode cX11_read 192 = .ok (.getfield 236, 3) := by decide +kernel
theorem dX11_read_195 : decode cX11_read 195 = .ok (.ifCond .le 8, 3) := by decide +kernel
theorem dX11_read_198 : decode cX11_read 198 = .ok (.aload_n 0, 1) := by decide +kernel
theorem dX11_read_199 : decode cX11_read 199 = .ok (.getfield 236, 3) := by decide +kernel
theorem dX11_read_202 : decode cX11_read 202 = .ok (.ireturn, 1) := by decide +kernel
theorem dX11_read_203 : decode cX11_read 203 = .ok (.aload_n 0, 1) := by decide +kernel
theorem dX11_read_204 : decode cX11_read 204 = .ok (.aload_n 0, 1) := by decide +kernel
theorem dX11_read_205 : decode cX11_read 205 = .ok (.getfield 260, 3) := by decide +kernel
theorem dX11_read_208 : decode cX11_read 208 = .ok (.putfield 257, 3) := by decide +kernel
theorem dX11_read_211 : decode cX11_read 211 = .ok (.aload_n 0, 1) := by decide +kernel
theorem dX11_read_212 : decode cX11_read 212 = .ok (.invokevirtual 184, 3) := by decide +kernel
theorem dX11_read_215 : decode cX11_read 215 = .ok (.aload_n 0, 1) := by decide +kernel
theorem dX11_read_216 : decode cX11_read 216 = .ok (.invokevirtual 187, 3) := by decide +kernel
theorem dX11_read_219 : decode cX11_read 219 = .ok (.aload_n 0, 1) := by decide +kernel
theorem dX11_read_220 : decode cX11_read 220 = .ok (.iconst 0, 1) := by decide +kernel
theorem dX11_read_221 : decode cX11_read 221 = .ok (.putfield 278, 3) := by decide +kernel
theorem dX11_read_224 : decode cX11_read 224 = .ok (.aload_n 0, 1) := by decide +kernel
theorem dX11_read_225 : decode cX11_read 225 = .ok (.iconst 0, 1) := by decide +kernel
theorem dX11_read_226 : decode cX11_read 226 = .ok (.putfield 281, 3) := by decide +kernel
theorem dX11_read_229 : decode cX11_read 229 = .ok (.iconst 0, 1) := by decide +kernel
theorem dX11_read_230 : decode cX11_read 230 = .ok (.istore_n 1, 1) := by decide +kernel
theorem dX11_read_231 : decode cX11_read 231 = .ok (.iload_n 1, 1) := by decide +kernel
theorem dX11_read_232 : decode cX11_read 232 = .ok (.iconst 3, 1) := by decide +kernel
theorem dX11_read_233 : decode cX11_read 233 = .ok (.if_icmp .ge 16, 3) := by decide +kernel
theorem dX11_read_236 : decode cX11_read 236 = .ok (.aload_n 0, 1) := by decide +kernel
theorem dX11_read_237 : decode cX11_read 237 = .ok (.getfield 170, 3) := by decide +kernel
theorem dX11_read_240 : decode cX11_read 240 = .ok (.iload_n 1, 1) := by decide +kernel
theorem dX11_read_241 : decode cX11_read 241 = .ok (.iconst 0, 1) := by decide +kernel
theorem dX11_read_242 : decode cX11_read 242 = .ok (.bastore, 1) := by decide +kernel
theorem dX11_read_243 : decode cX11_read 243 = .ok (.iinc 1 1, 3) := by decide +kernel
theorem dX11_read_246 : decode cX11_read 246 = .ok (.goto (-15), 3) := by decide +kernel
theorem dX11_read_249 : decode cX11_read 249 = .ok (.iconst 0, 1) := by decide +kernel
theorem dX11_read_250 : decode cX11_read 250 = .ok (.ireturn, 1) := by decide +kernel
theorem dX11_place_0 : decode cX11_place 0 = .ok (.aload_n 0, 1) := by decide +kernel
theorem dX11_place_1 : decode cX11_place 1 = .ok (.getfield 37, 3) := by decide +kernel
theorem dX11_place_4 : decode cX11_place 4 = .ok (.ireturn, 1) := by decide +kernel
theorem dX11_roomFor_0 : decode cX11_roomFor 0 = .ok (.iload_n 1, 1) := by decide +kernel
theorem dX11_roomFor_1 : decode cX11_roomFor 1 = .ok (.iload_n 2, 1) := by decide +kernel
theorem dX11_roomFor_2 : decode cX11_roomFor 2 = .ok (.if_icmp .ne 8, 3) := by decide +kernel
theorem dX11_roomFor_5 : decode cX11_roomFor 5 = .ok (.aload_n 0, 1) := by decide +kernel
theorem dX11_roomFor_6 : decode cX11_roomFor 6 = .ok (.iconst 2, 1) := by decide +kernel
theorem dX11_roomFor_7 : decode cX11_roomFor 7 = .ok (.invokevirtual 242, 3) := by decide +kernel
theorem dX11_roomFor_10 : decode cX11_roomFor 10 = .ok (.aload_n 0, 1) := by decide +kernel
theorem dX11_roomFor_11 : decode cX11_roomFor 11 = .ok (.getfield 227, 3) := by decide +kernel
theorem dX11_roomFor_14 : decode cX11_roomFor 14 = .ok (.ifCond .ne 7, 3) := by decide +kernel
theorem dX11_roomFor_17 : decode cX11_roomFor 17 = .ok (.aload_n 0, 1) := by decide +kernel
theorem dX11_roomFor_18 : decode cX11_roomFor 18 = .ok (.invokevirtual 248, 3) := by decide +kernel
theorem dX11_roomFor_21 : decode cX11_roomFor 21 = .ok (.return_, 1) := by decide +kernel
theorem dX11_tellOne_0 : decode cX11_tellOne 0 = .ok (.aload_n 0, 1) := by decide +kernel
theorem dX11_tellOne_1 : decode cX11_tellOne 1 = .ok (.getfield 20, 3) := by decide +kernel
theorem dX11_tellOne_4 : decode cX11_tellOne 4 = .ok (.aload_n 0, 1) := by decide +kernel
theorem dX11_tellOne_5 : decode cX11_tellOne 5 = .ok (.getfield 230, 3) := by decide +kernel
theorem dX11_tellOne_8 : decode cX11_tellOne 8 = .ok (.iaload, 1) := by decide +kernel
theorem dX11_tellOne_9 : decode cX11_tellOne 9 = .ok (.tableswitch 276 20 33 #[71, 134, 163, 191, 276, 276, 276, 276, 276, 276, 276, 276, 219, 247], 71) := by decide +kernel
theorem dX11_tellOne_80 : decode cX11_tellOne 80 = .ok (.aload_n 0, 1) := by decide +kernel
theorem dX11_tellOne_81 : decode cX11_tellOne 81 = .ok (.aload_n 0, 1) := by decide +kernel
theorem dX11_tellOne_82 : decode cX11_tellOne 82 = .ok (.getfield 46, 3) := by decide +kernel
theorem dX11_tellOne_85 : decode cX11_tellOne 85 = .ok (.aload_n 0, 1) := by decide +kernel
theorem dX11_tellOne_86 : decode cX11_tellOne 86 = .ok (.getfield 260, 3) := by decide +kernel
theorem dX11_tellOne_89 : decode cX11_tellOne 89 = .ok (.iaload, 1) := by decide +kernel
theorem dX11_tellOne_90 : decode cX11_tellOne 90 = .ok (.bipush 8, 2) := by decide +kernel
theorem dX11_tellOne_92 : decode cX11_tellOne 92 = .ok (.invokevirtual 284, 3) := by decide +kernel
theorem dX11_tellOne_95 : decode cX11_tellOne 95 = .ok (.aload_n 0, 1) := by decide +kernel
theorem dX11_tellOne_96 : decode cX11_tellOne 96 = .ok (.getfield 227, 3) := by decide +kernel
theorem dX11_tellOne_99 : decode cX11_tellOne 99 = .ok (.ifCond .le 4, 3) := by decide +kernel
theorem dX11_tellOne_102 : decode cX11_tellOne 102 = .ok (.return_, 1) := by decide +kernel
theorem dX11_tellOne_103 : decode cX11_tellOne 103 = .ok (.aload_n 0, 1) := by decide +kernel
theorem dX11_tellOne_104 : decode cX11_tellOne 104 = .ok (.aload_n 0, 1) := by decide +kernel
theorem dX11_tellOne_105 : decode cX11_tellOne 105 = .ok (.invokevirtual 288, 3) := by decide +kernel
theorem dX11_tellOne_108 : decode cX11_tellOne 108 = .ok (.aload_n 0, 1) := by decide +kernel
theorem dX11_tellOne_109 : decode cX11_tellOne 109 = .ok (.getfield 46, 3) := by decide +kernel
theorem dX11_tellOne_112 : decode cX11_tellOne 112 = .ok (.aload_n 0, 1) := by decide +kernel
theorem dX11_tellOne_113 : decode cX11_tellOne 113 = .ok (.getfield 260, 3) := by decide +kernel
theorem dX11_tellOne_116 : decode cX11_tellOne 116 = .ok (.iaload, 1) := by decide +kernel
theorem dX11_tellOne_117 : decode cX11_tellOne 117 = .ok (.invokevirtual 292, 3) := by decide +kernel
theorem dX11_tellOne_120 : decode cX11_tellOne 120 = .ok (.aload_n 0, 1) := by decide +kernel
theorem dX11_tellOne_121 : decode cX11_tellOne 121 = .ok (.getfield 227, 3) := by decide +kernel
theorem dX11_tellOne_124 : decode cX11_tellOne 124 = .ok (.ifCond .ne 214, 3) := by decide +kernel
theorem dX11_tellOne_127 : decode cX11_tellOne 127 = .ok (.aload_n 0, 1) := by decide +kernel
theorem dX11_tellOne_128 : decode cX11_tellOne 128 = .ok (.getfield 46, 3) := by decide +kernel
theorem dX11_tellOne_131 : decode cX11_tellOne 131 = .ok (.aload_n 0, 1) := by decide +kernel
theorem dX11_tellOne_132 : decode cX11_tellOne 132 = .ok (.getfield 260, 3) := by decide +kernel
theorem dX11_tellOne_135 : decode cX11_tellOne 135 = .ok (.dup2, 1) := by decide +kernel
theorem dX11_tellOne_136 : decode cX11_tellOne 136 = .ok (.iaload, 1) := by decide +kernel
theorem dX11_tellOne_137 : decode cX11_tellOne 137 = .ok (.iconst 1, 1) := by decide +kernel
theorem dX11_tellOne_138 : decode cX11_tellOne 138 = .ok (.iadd, 1) := by decide +kernel
theorem dX11_tellOne_139 : decode cX11_tellOne 139 = .ok (.iastore, 1) := by decide +kernel
theorem dX11_tellOne_140 : decode cX11_tellOne 140 = .ok (.goto 198, 3) := by decide +kernel
theorem dX11_tellOne_143 : decode cX11_tellOne 143 = .ok (.aload_n 0, 1) := by decide +kernel
theorem dX11_tellOne_144 : decode cX11_tellOne 144 = .ok (.aload_n 0, 1) := by decide +kernel
theorem dX11_tellOne_145 : decode cX11_tellOne 145 = .ok (.getfield 49, 3) := by decide +kernel
theorem dX11_tellOne_148 : decode cX11_tellOne 148 = .ok (.aload_n 0, 1) := by decide +kernel
theorem dX11_tellOne_149 : decode cX11_tellOne 149 = .ok (.getfield 260, 3) := by decide +kernel
theorem dX11_tellOne_152 : decode cX11_tellOne 152 = .ok (.iaload, 1) := by decide +kernel
theorem dX11_tellOne_153 : decode cX11_tellOne 153 = .ok (.bipush 7, 2) := by decide +kernel
theorem dX11_tellOne_155 : decode cX11_tellOne 155 = .ok (.invokevirtual 284, 3) := by decide +kernel
theorem dX11_tellOne_158 : decode cX11_tellOne 158 = .ok (.aload_n 0, 1) := by decide +kernel
theorem dX11_tellOne_159 : decode cX11_tellOne 159 = .ok (.getfield 227, 3) := by decide +kernel
theorem dX11_tellOne_162 : decode cX11_tellOne 162 = .ok (.ifCond .ne 176, 3) := by decide +kernel
theorem dX11_tellOne_165 : decode cX11_tellOne 165 = .ok (.aload_n 0, 1) := by decide +kernel
theorem dX11_tellOne_166 : decode cX11_tellOne 166 = .ok (.invokevirtual 295, 3) := by decide +kernel
theorem dX11_tellOne_169 : decode cX11_tellOne 169 = .ok (.goto 169, 3) := by decide +kernel
theorem dX11_tellOne_172 : decode cX11_tellOne 172 = .ok (.aload_n 0, 1) := by decide +kernel
theorem dX11_tellOne_173 : decode cX11_tellOne 173 = .ok (.aload_n 0, 1) := by decide +kernel
theorem dX11_tellOne_174 : decode cX11_tellOne 174 = .ok (.getfield 58, 3) := by decide +kernel
theorem dX11_tellOne_177 : decode cX11_tellOne 177 = .ok (.aload_n 0, 1) := by decide +kernel
theorem dX11_tellOne_178 : decode cX11_tellOne 178 = .ok (.getfield 260, 3) := by decide +kernel
theorem dX11_tellOne_181 : decode cX11_tellOne 181 = .ok (.iaload, 1) := by decide +kernel
theorem dX11_tellOne_182 : decode cX11_tellOne 182 = .ok (.iconst 4, 1) := by decide +kernel
theorem dX11_tellOne_183 : decode cX11_tellOne 183 = .ok (.invokevirtual 284, 3) := by decide +kernel
theorem dX11_tellOne_186 : decode cX11_tellOne 186 = .ok (.aload_n 0, 1) := by decide +kernel
theorem dX11_tellOne_187 : decode cX11_tellOne 187 = .ok (.getfield 227, 3) := by decide +kernel
theorem dX11_tellOne_190 : decode cX11_tellOne 190 = .ok (.ifCond .ne 148, 3) := by decide +kernel
theorem dX11_tellOne_193 : decode cX11_tellOne 193 = .ok (.aload_n 0, 1) := by decide +kernel
theorem dX11_tellOne_194 : decode cX11_tellOne 194 = .ok (.invokevirtual 298, 3) := by decide +kernel
theorem dX11_tellOne_197 : decode cX11_tellOne 197 = .ok (.goto 141, 3) := by decide +kernel
theorem dX11_tellOne_200 : decode cX11_tellOne 200 = .ok (.aload_n 0, 1) := by decide +kernel
theorem dX11_tellOne_201 : decode cX11_tellOne 201 = .ok (.aload_n 0, 1) := by decide +kernel
theorem dX11_tellOne_202 : decode cX11_tellOne 202 = .ok (.getfield 70, 3) := by decide +kernel
theorem dX11_tellOne_205 : decode cX11_tellOne 205 = .ok (.aload_n 0, 1) := by decide +kernel
theorem dX11_tellOne_206 : decode cX11_tellOne 206 = .ok (.getfield 260, 3) := by decide +kernel
theorem dX11_tellOne_209 : decode cX11_tellOne 209 = .ok (.iaload, 1) := by decide +kernel
theorem dX11_tellOne_210 : decode cX11_tellOne 210 = .ok (.iconst 4, 1) := by decide +kernel
theorem dX11_tellOne_211 : decode cX11_tellOne 211 = .ok (.invokevirtual 284, 3) := by decide +kernel
theorem dX11_tellOne_214 : decode cX11_tellOne 214 = .ok (.aload_n 0, 1) := by decide +kernel
theorem dX11_tellOne_215 : decode cX11_tellOne 215 = .ok (.getfield 227, 3) := by decide +kernel
theorem dX11_tellOne_218 : decode cX11_tellOne 218 = .ok (.ifCond .ne 120, 3) := by decide +kernel
theorem dX11_tellOne_221 : decode cX11_tellOne 221 = .ok (.aload_n 0, 1) := by decide +kernel
theorem dX11_tellOne_222 : decode cX11_tellOne 222 = .ok (.invokevirtual 301, 3) := by decide +kernel
theorem dX11_tellOne_225 : decode cX11_tellOne 225 = .ok (.goto 113, 3) := by decide +kernel
theorem dX11_tellOne_228 : decode cX11_tellOne 228 = .ok (.aload_n 0, 1) := by decide +kernel
theorem dX11_tellOne_229 : decode cX11_tellOne 229 = .ok (.invokevirtual 248, 3) := by decide +kernel
theorem dX11_tellOne_232 : decode cX11_tellOne 232 = .ok (.aload_n 0, 1) := by decide +kernel
theorem dX11_tellOne_233 : decode cX11_tellOne 233 = .ok (.getfield 88, 3) := by decide +kernel
theorem dX11_tellOne_236 : decode cX11_tellOne 236 = .ok (.aload_n 0, 1) := by decide +kernel
theorem dX11_tellOne_237 : decode cX11_tellOne 237 = .ok (.getfield 260, 3) := by decide +kernel
theorem dX11_tellOne_240 : decode cX11_tellOne 240 = .ok (.aload_n 0, 1) := by decide +kernel
theorem dX11_tellOne_241 : decode cX11_tellOne 241 = .ok (.iconst 0, 1) := by decide +kernel
theorem dX11_tellOne_242 : decode cX11_tellOne 242 = .ok (.bipush 100, 2) := by decide +kernel
theorem dX11_tellOne_244 : decode cX11_tellOne 244 = .ok (.invokevirtual 304, 3) := by decide +kernel
theorem dX11_tellOne_247 : decode cX11_tellOne 247 = .ok (.iastore, 1) := by decide +kernel
theorem dX11_tellOne_248 : decode cX11_tellOne 248 = .ok (.aload_n 0, 1) := by decide +kernel
theorem dX11_tellOne_249 : decode cX11_tellOne 249 = .ok (.iconst 4, 1) := by decide +kernel
theorem dX11_tellOne_250 : decode cX11_tellOne 250 = .ok (.invokevirtual 308, 3) := by decide +kernel
theorem dX11_tellOne_253 : decode cX11_tellOne 253 = .ok (.goto 85, 3) := by decide +kernel
theorem dX11_tellOne_256 : decode cX11_tellOne 256 = .ok (.aload_n 0, 1) := by decide +kernel
theorem dX11_tellOne_257 : decode cX11_tellOne 257 = .ok (.invokevirtual 248, 3) := by decide +kernel
theorem dX11_tellOne_260 : decode cX11_tellOne 260 = .ok (.aload_n 0, 1) := by decide +kernel
theorem dX11_tellOne_261 : decode cX11_tellOne 261 = .ok (.getfield 91, 3) := by decide +kernel
theorem dX11_tellOne_264 : decode cX11_tellOne 264 = .ok (.aload_n 0, 1) := by decide +kernel
theorem dX11_tellOne_265 : decode cX11_tellOne 265 = .ok (.getfield 260, 3) := by decide +kernel
theorem dX11_tellOne_268 : decode cX11_tellOne 268 = .ok (.aload_n 0, 1) := by decide +kernel
theorem dX11_tellOne_269 : decode cX11_tellOne 269 = .ok (.iconst 0, 1) := by decide +kernel
theorem dX11_tellOne_270 : decode cX11_tellOne 270 = .ok (.sipush 9999, 3) := by decide +kernel
theorem dX11_tellOne_273 : decode cX11_tellOne 273 = .ok (.invokevirtual 304, 3) := by decide +kernel
theorem dX11_tellOne_276 : decode cX11_tellOne 276 = .ok (.iastore, 1) := by decide +kernel
theorem dX11_tellOne_277 : decode cX11_tellOne 277 = .ok (.aload_n 0, 1) := by decide +kernel
theorem dX11_tellOne_278 : decode cX11_tellOne 278 = .ok (.iconst 4, 1) := by decide +kernel
theorem dX11_tellOne_279 : decode cX11_tellOne 279 = .ok (.invokevirtual 308, 3) := by decide +kernel
theorem dX11_tellOne_282 : decode cX11_tellOne 282 = .ok (.goto 56, 3) := by decide +kernel
theorem dX11_tellOne_285 : decode cX11_tellOne 285 = .ok (.aload_n 0, 1) := by decide +kernel
theorem dX11_tellOne_286 : decode cX11_tellOne 286 = .ok (.getfield 20, 3) := by decide +kernel
theorem dX11_tellOne_289 : decode cX11_tellOne 289 = .ok (.aload_n 0, 1) := by decide +kernel
theorem dX11_tellOne_290 : decode cX11_tellOne 290 = .ok (.getfield 230, 3) := by decide +kernel
theorem dX11_tellOne_293 : decode cX11_tellOne 293 = .ok (.iaload, 1) := by decide +kernel
theorem dX11_tellOne_294 : decode cX11_tellOne 294 = .ok (.bipush 29, 2) := by decide +kernel
theorem dX11_tellOne_296 : decode cX11_tellOne 296 = .ok (.isub, 1) := by decide +kernel
theorem dX11_tellOne_297 : decode cX11_tellOne 297 = .ok (.istore_n 1, 1) := by decide +kernel
theorem dX11_tellOne_298 : decode cX11_tellOne 298 = .ok (.iload_n 1, 1) := by decide +kernel
theorem dX11_tellOne_299 : decode cX11_tellOne 299 = .ok (.ifCond .lt 17, 3) := by decide +kernel
theorem dX11_tellOne_302 : decode cX11_tellOne 302 = .ok (.aload_n 0, 1) := by decide +kernel
theorem dX11_tellOne_303 : decode cX11_tellOne 303 = .ok (.getfield 20, 3) := by decide +kernel
theorem dX11_tellOne_306 : decode cX11_tellOne 306 = .ok (.aload_n 0, 1) := by decide +kernel
theorem dX11_tellOne_307 : decode cX11_tellOne 307 = .ok (.getfield 230, 3) := by decide +kernel
theorem dX11_tellOne_310 : decode cX11_tellOne 310 = .ok (.iaload, 1) := by decide +kernel
theorem dX11_tellOne_311 : decode cX11_tellOne 311 = .ok (.bipush 31, 2) := by decide +kernel
theorem dX11_tellOne_313 : decode cX11_tellOne 313 = .ok (.if_icmp .le 8, 3) := by decide +kernel
theorem dX11_tellOne_316 : decode cX11_tellOne 316 = .ok (.aload_n 0, 1) := by decide +kernel
theorem dX11_tellOne_317 : decode cX11_tellOne 317 = .ok (.iconst 1, 1) := by decide +kernel
theorem dX11_tellOne_318 : decode cX11_tellOne 318 = .ok (.invokevirtual 242, 3) := by decide +kernel
theorem dX11_tellOne_321 : decode cX11_tellOne 321 = .ok (.aload_n 0, 1) := by decide +kernel
theorem dX11_tellOne_322 : decode cX11_tellOne 322 = .ok (.getfield 227, 3) := by decide +kernel
theorem dX11_tellOne_325 : decode cX11_tellOne 325 = .ok (.ifCond .le 4, 3) := by decide +kernel
theorem dX11_tellOne_328 : decode cX11_tellOne 328 = .ok (.return_, 1) := by decide +kernel
theorem dX11_tellOne_329 : decode cX11_tellOne 329 = .ok (.aload_n 0, 1) := by decide +kernel
theorem dX11_tellOne_330 : decode cX11_tellOne 330 = .ok (.invokevirtual 248, 3) := by decide +kernel
theorem dX11_tellOne_333 : decode cX11_tellOne 333 = .ok (.aload_n 0, 1) := by decide +kernel
theorem dX11_tellOne_334 : decode cX11_tellOne 334 = .ok (.iload_n 1, 1) := by decide +kernel
theorem dX11_tellOne_335 : decode cX11_tellOne 335 = .ok (.invokevirtual 311, 3) := by decide +kernel
theorem dX11_tellOne_338 : decode cX11_tellOne 338 = .ok (.return_, 1) := by decide +kernel
theorem dX11_named_0 : decode cX11_named 0 = .ok (.aload_n 0, 1) := by decide +kernel
theorem dX11_named_1 : decode cX11_named 1 = .ok (.getfield 230, 3) := by decide +kernel
theorem dX11_named_4 : decode cX11_named 4 = .ok (.istore_n 1, 1) := by decide +kernel
theorem dX11_named_5 : decode cX11_named 5 = .ok (.aload_n 0, 1) := by decide +kernel
theorem dX11_named_6 : decode cX11_named 6 = .ok (.iconst 1, 1) := by decide +kernel
theorem dX11_named_7 : decode cX11_named 7 = .ok (.invokevirtual 308, 3) := by decide +kernel
theorem dX11_named_10 : decode cX11_named 10 = .ok (.iconst 0, 1) := by decide +kernel
theorem dX11_named_11 : decode cX11_named 11 = .ok (.istore_n 2, 1) := by decide +kernel
theorem dX11_named_12 : decode cX11_named 12 = .ok (.iload_n 2, 1) := by decide +kernel
theorem dX11_named_13 : decode cX11_named 13 = .ok (.aload_n 0, 1) := by decide +kernel
theorem dX11_named_14 : decode cX11_named 14 = .ok (.getfield 263, 3) := by decide +kernel
theorem dX11_named_17 : decode cX11_named 17 = .ok (.if_icmp .ge 38, 3) := by decide +kernel
theorem dX11_named_20 : decode cX11_named 20 = .ok (.aload_n 0, 1) := by decide +kernel
theorem dX11_named_21 : decode cX11_named 21 = .ok (.getfield 227, 3) := by decide +kernel
theorem dX11_named_24 : decode cX11_named 24 = .ok (.ifCond .ne 31, 3) := by decide +kernel
theorem dX11_named_27 : decode cX11_named 27 = .ok (.aload_n 0, 1) := by decide +kernel
theorem dX11_named_28 : decode cX11_named 28 = .ok (.getfield 40, 3) := by decide +kernel
theorem dX11_named_31 : decode cX11_named 31 = .ok (.iload_n 2, 1) := by decide +kernel
theorem dX11_named_32 : decode cX11_named 32 = .ok (.laload, 1) := by decide +kernel
theorem dX11_named_33 : decode cX11_named 33 = .ok (.aload_n 0, 1) := by decide +kernel
theorem dX11_named_34 : decode cX11_named 34 = .ok (.getfield 30, 3) := by decide +kernel
theorem dX11_named_37 : decode cX11_named 37 = .ok (.iload_n 1, 1) := by decide +kernel
theorem dX11_named_38 : decode cX11_named 38 = .ok (.laload, 1) := by decide +kernel
theorem dX11_named_39 : decode cX11_named 39 = .ok (.lcmp, 1) := by decide +kernel
theorem dX11_named_40 : decode cX11_named 40 = .ok (.ifCond .ne 9, 3) := by decide +kernel
theorem dX11_named_43 : decode cX11_named 43 = .ok (.aload_n 0, 1) := by decide +kernel
theorem dX11_named_44 : decode cX11_named 44 = .ok (.iconst 3, 1) := by decide +kernel
theorem dX11_named_45 : decode cX11_named 45 = .ok (.iload_n 1, 1) := by decide +kernel
theorem dX11_named_46 : decode cX11_named 46 = .ok (.invokevirtual 314, 3) := by decide +kernel
theorem dX11_named_49 : decode cX11_named 49 = .ok (.iinc 2 1, 3) := by decide +kernel
theorem dX11_named_52 : decode cX11_named 52 = .ok (.goto (-40), 3) := by decide +kernel
theorem dX11_named_55 : decode cX11_named 55 = .ok (.iload_n 1, 1) := by decide +kernel
theorem dX11_named_56 : decode cX11_named 56 = .ok (.ireturn, 1) := by decide +kernel
theorem dX11_ends_0 : decode cX11_ends 0 = .ok (.aload_n 0, 1) := by decide +kernel
theorem dX11_ends_1 : decode cX11_ends 1 = .ok (.iconst 4, 1) := by decide +kernel
theorem dX11_ends_2 : decode cX11_ends 2 = .ok (.invokevirtual 308, 3) := by decide +kernel
theorem dX11_ends_5 : decode cX11_ends 5 = .ok (.aload_n 0, 1) := by decide +kernel
theorem dX11_ends_6 : decode cX11_ends 6 = .ok (.getfield 227, 3) := by decide +kernel
theorem dX11_ends_9 : decode cX11_ends 9 = .ok (.ifCond .le 4, 3) := by decide +kernel
theorem dX11_ends_12 : decode cX11_ends 12 = .ok (.return_, 1) := by decide +kernel
theorem dX11_ends_13 : decode cX11_ends 13 = .ok (.aload_n 0, 1) := by decide +kernel
theorem dX11_ends_14 : decode cX11_ends 14 = .ok (.getfield 40, 3) := by decide +kernel
theorem dX11_ends_17 : decode cX11_ends 17 = .ok (.aload_n 0, 1) := by decide +kernel
theorem dX11_ends_18 : decode cX11_ends 18 = .ok (.getfield 263, 3) := by decide +kernel
theorem dX11_ends_21 : decode cX11_ends 21 = .ok (.aload_n 0, 1) := by decide +kernel
theorem dX11_ends_22 : decode cX11_ends 22 = .ok (.getfield 30, 3) := by decide +kernel
theorem dX11_ends_25 : decode cX11_ends 25 = .ok (.iload_n 1, 1) := by decide +kernel
theorem dX11_ends_26 : decode cX11_ends 26 = .ok (.laload, 1) := by decide +kernel
theorem dX11_ends_27 : decode cX11_ends 27 = .ok (.lastore, 1) := by decide +kernel
theorem dX11_ends_28 : decode cX11_ends 28 = .ok (.aload_n 0, 1) := by decide +kernel
theorem dX11_ends_29 : decode cX11_ends 29 = .ok (.getfield 43, 3) := by decide +kernel
theorem dX11_ends_32 : decode cX11_ends 32 = .ok (.aload_n 0, 1) := by decide +kernel
theorem dX11_ends_33 : decode cX11_ends 33 = .ok (.getfield 263, 3) := by decide +kernel
theorem dX11_ends_36 : decode cX11_ends 36 = .ok (.iload_n 2, 1) := by decide +kernel
theorem dX11_ends_37 : decode cX11_ends 37 = .ok (.iastore, 1) := by decide +kernel
theorem dX11_ends_38 : decode cX11_ends 38 = .ok (.aload_n 0, 1) := by decide +kernel
theorem dX11_ends_39 : decode cX11_ends 39 = .ok (.dup, 1) := by decide +kernel
theorem dX11_ends_40 : decode cX11_ends 40 = .ok (.getfield 263, 3) := by decide +kernel
theorem dX11_ends_43 : decode cX11_ends 43 = .ok (.iconst 1, 1) := by decide +kernel
theorem dX11_ends_44 : decode cX11_ends 44 = .ok (.iadd, 1) := by decide +kernel
theorem dX11_ends_45 : decode cX11_ends 45 = .ok (.putfield 263, 3) := by decide +kernel
theorem dX11_ends_48 : decode cX11_ends 48 = .ok (.return_, 1) := by decide +kernel
theorem dX11_knownTrait_0 : decode cX11_knownTrait 0 = .ok (.aload_n 0, 1) := by decide +kernel
theorem dX11_knownTrait_1 : decode cX11_knownTrait 1 = .ok (.getfield 230, 3) := by decide +kernel
theorem dX11_knownTrait_4 : decode cX11_knownTrait 4 = .ok (.istore_n 1, 1) := by decide +kernel
theorem dX11_knownTrait_5 : decode cX11_knownTrait 5 = .ok (.aload_n 0, 1) := by decide +kernel
theorem dX11_knownTrait_6 : decode cX11_knownTrait 6 = .ok (.iconst 1, 1) := by decide +kernel
theorem dX11_knownTrait_7 : decode cX11_knownTrait 7 = .ok (.invokevirtual 308, 3) := by decide +kernel
theorem dX11_knownTrait_10 : decode cX11_knownTrait 10 = .ok (.aload_n 0, 1) := by decide +kernel
theorem dX11_knownTrait_11 : decode cX11_knownTrait 11 = .ok (.getfield 227, 3) := by decide +kernel
theorem dX11_knownTrait_14 : decode cX11_knownTrait 14 = .ok (.ifCond .le 5, 3) := by decide +kernel
theorem dX11_knownTrait_17 : decode cX11_knownTrait 17 = .ok (.iconst 0, 1) := by decide +kernel
theorem dX11_knownTrait_18 : decode cX11_knownTrait 18 = .ok (.ireturn, 1) := by decide +kernel
theorem dX11_knownTrait_19 : decode cX11_knownTrait 19 = .ok (.iconst 0, 1) := by decide +kernel
theorem dX11_knownTrait_20 : decode cX11_knownTrait 20 = .ok (.istore_n 2, 1) := by decide +kernel
theorem dX11_knownTrait_21 : decode cX11_knownTrait 21 = .ok (.iload_n 2, 1) := by decide +kernel
theorem dX11_knownTrait_22 : decode cX11_knownTrait 22 = .ok (.aload_n 0, 1) := by decide +kernel
theorem dX11_knownTrait_23 : decode cX11_knownTrait 23 = .ok (.getfield 263, 3) := by decide +kernel
theorem dX11_knownTrait_26 : decode cX11_knownTrait 26 = .ok (.if_icmp .ge 43, 3) := by decide +kernel
theorem dX11_knownTrait_29 : decode cX11_knownTrait 29 = .ok (.aload_n 0, 1) := by decide +kernel
theorem dX11_knownTrait_30 : decode cX11_knownTrait 30 = .ok (.getfield 40, 3) := by decide +kernel
theorem dX11_knownTrait_33 : decode cX11_knownTrait 33 = .ok (.iload_n 2, 1) := by decide +kernel
theorem dX11_knownTrait_34 : decode cX11_knownTrait 34 = .ok (.laload, 1) := by decide +kernel
theorem dX11_knownTrait_35 : decode cX11_knownTrait 35 = .ok (.aload_n 0, 1) := by decide +kernel
theorem dX11_knownTrait_36 : decode cX11_knownTrait 36 = .ok (.getfield 30, 3) := by decide +kernel
theorem dX11_knownTrait_39 : decode cX11_knownTrait 39 = .ok (.iload_n 1, 1) := by decide +kernel
theorem dX11_knownTrait_40 : decode cX11_knownTrait 40 = .ok (.laload, 1) := by decide +kernel
theorem dX11_knownTrait_41 : decode cX11_knownTrait 41 = .ok (.lcmp, 1) := by decide +kernel
theorem dX11_knownTrait_42 : decode cX11_knownTrait 42 = .ok (.ifCond .ne 21, 3) := by decide +kernel
theorem dX11_knownTrait_45 : decode cX11_knownTrait 45 = .ok (.aload_n 0, 1) := by decide +kernel
theorem dX11_knownTrait_46 : decode cX11_knownTrait 46 = .ok (.getfield 43, 3) := by decide +kernel
theorem dX11_knownTrait_49 : decode cX11_knownTrait 49 = .ok (.iload_n 2, 1) := by decide +kernel
theorem dX11_knownTrait_50 : decode cX11_knownTrait 50 = .ok (.iaload, 1) := by decide +kernel
theorem dX11_knownTrait_51 : decode cX11_knownTrait 51 = .ok (.ifCond .lt 12, 3) := by decide +kernel
theorem dX11_knownTrait_54 : decode cX11_knownTrait 54 = .ok (.iconst 1, 1) := by decide +kernel
theorem dX11_knownTrait_55 : decode cX11_knownTrait 55 = .ok (.aload_n 0, 1) := by decide +kernel
theorem dX11_knownTrait_56 : decode cX11_knownTrait 56 = .ok (.getfield 43, 3) := by decide +kernel
theorem dX11_knownTrait_59 : decode cX11_knownTrait 59 = .ok (.iload_n 2, 1) := by decide +kernel
theorem dX11_knownTrait_60 : decode cX11_knownTrait 60 = .ok (.iaload, 1) := by decide +kernel
theorem dX11_knownTrait_61 : decode cX11_knownTrait 61 = .ok (.ishl, 1) := by decide +kernel
theorem dX11_knownTrait_62 : decode cX11_knownTrait 62 = .ok (.ireturn, 1) := by decide +kernel
theorem dX11_knownTrait_63 : decode cX11_knownTrait 63 = .ok (.iinc 2 1, 3) := by decide +kernel
theorem dX11_knownTrait_66 : decode cX11_knownTrait 66 = .ok (.goto (-45), 3) := by decide +kernel
theorem dX11_knownTrait_69 : decode cX11_knownTrait 69 = .ok (.aload_n 0, 1) := by decide +kernel
theorem dX11_knownTrait_70 : decode cX11_knownTrait 70 = .ok (.iconst 4, 1) := by decide +kernel
theorem dX11_knownTrait_71 : decode cX11_knownTrait 71 = .ok (.iload_n 1, 1) := by decide +kernel
theorem dX11_knownTrait_72 : decode cX11_knownTrait 72 = .ok (.invokevirtual 314, 3) := by decide +kernel
theorem dX11_knownTrait_75 : decode cX11_knownTrait 75 = .ok (.iconst 0, 1) := by decide +kernel
theorem dX11_knownTrait_76 : decode cX11_knownTrait 76 = .ok (.ireturn, 1) := by decide +kernel
theorem dX11_bounded_0 : decode cX11_bounded 0 = .ok (.aload_n 0, 1) := by decide +kernel
theorem dX11_bounded_1 : decode cX11_bounded 1 = .ok (.getfield 227, 3) := by decide +kernel
theorem dX11_bounded_4 : decode cX11_bounded 4 = .ok (.ifCond .gt 11, 3) := by decide +kernel
theorem dX11_bounded_7 : decode cX11_bounded 7 = .ok (.aload_n 0, 1) := by decide +kernel
theorem dX11_bounded_8 : decode cX11_bounded 8 = .ok (.iconst 2, 1) := by decide +kernel
theorem dX11_bounded_9 : decode cX11_bounded 9 = .ok (.invokevirtual 245, 3) := by decide +kernel
theorem dX11_bounded_12 : decode cX11_bounded 12 = .ok (.ifCond .ne 10, 3) := by decide +kernel
theorem dX11_bounded_15 : decode cX11_bounded 15 = .ok (.aload_n 0, 1) := by decide +kernel
theorem dX11_bounded_16 : decode cX11_bounded 16 = .ok (.iconst 1, 1) := by decide +kernel
theorem dX11_bounded_17 : decode cX11_bounded 17 = .ok (.invokevirtual 242, 3) := by decide +kernel
theorem dX11_bounded_20 : decode cX11_bounded 20 = .ok (.iload_n 1, 1) := by decide +kernel
theorem dX11_bounded_21 : decode cX11_bounded 21 = .ok (.ireturn, 1) := by decide +kernel
theorem dX11_bounded_22 : decode cX11_bounded 22 = .ok (.aload_n 0, 1) := by decide +kernel
theorem dX11_bounded_23 : decode cX11_bounded 23 = .ok (.getfield 27, 3) := by decide +kernel
theorem dX11_bounded_26 : decode cX11_bounded 26 = .ok (.aload_n 0, 1) := by decide +kernel
theorem dX11_bounded_27 : decode cX11_bounded 27 = .ok (.getfield 230, 3) := by decide +kernel
theorem dX11_bounded_30 : decode cX11_bounded 30 = .ok (.iaload, 1) := by decide +kernel
theorem dX11_bounded_31 : decode cX11_bounded 31 = .ok (.istore_n 3, 1) := by decide +kernel
theorem dX11_bounded_32 : decode cX11_bounded 32 = .ok (.iload_n 3, 1) := by decide +kernel
theorem dX11_bounded_33 : decode cX11_bounded 33 = .ok (.iload_n 1, 1) := by decide +kernel
theorem dX11_bounded_34 : decode cX11_bounded 34 = .ok (.if_icmp .lt 8, 3) := by decide +kernel
theorem dX11_bounded_37 : decode cX11_bounded 37 = .ok (.iload_n 3, 1) := by decide +kernel
theorem dX11_bounded_38 : decode cX11_bounded 38 = .ok (.iload_n 2, 1) := by decide +kernel
theorem dX11_bounded_39 : decode cX11_bounded 39 = .ok (.if_icmp .le 12, 3) := by decide +kernel
theorem dX11_bounded_42 : decode cX11_bounded 42 = .ok (.aload_n 0, 1) := by decide +kernel
theorem dX11_bounded_43 : decode cX11_bounded 43 = .ok (.iconst 5, 1) := by decide +kernel
theorem dX11_bounded_44 : decode cX11_bounded 44 = .ok (.aload_n 0, 1) := by decide +kernel
theorem dX11_bounded_45 : decode cX11_bounded 45 = .ok (.getfield 230, 3) := by decide +kernel
theorem dX11_bounded_48 : decode cX11_bounded 48 = .ok (.invokevirtual 314, 3) := by decide +kernel
theorem dX11_bounded_51 : decode cX11_bounded 51 = .ok (.aload_n 0, 1) := by decide +kernel
theorem dX11_bounded_52 : decode cX11_bounded 52 = .ok (.invokevirtual 248, 3) := by decide +kernel
theorem dX11_bounded_55 : decode cX11_bounded 55 = .ok (.iload_n 3, 1) := by decide +kernel
theorem dX11_bounded_56 : decode cX11_bounded 56 = .ok (.ireturn, 1) := by decide +kernel
theorem dX11_tellBeing_0 : decode cX11_tellBeing 0 = .ok (.bipush 7, 2) := by decide +kernel
theorem dX11_tellBeing_2 : decode cX11_tellBeing 2 = .ok (.aload_n 0, 1) := by decide +kernel
theorem dX11_tellBeing_3 : decode cX11_tellBeing 3 = .ok (.getfield 260, 3) := by decide +kernel
theorem dX11_tellBeing_6 : decode cX11_tellBeing 6 = .ok (.imul, 1) := by decide +kernel
theorem dX11_tellBeing_7 : decode cX11_tellBeing 7 = .ok (.aload_n 0, 1) := by decide +kernel
theorem dX11_tellBeing_8 : decode cX11_tellBeing 8 = .ok (.getfield 49, 3) := by decide +kernel
theorem dX11_tellBeing_11 : decode cX11_tellBeing 11 = .ok (.aload_n 0, 1) := by decide +kernel
theorem dX11_tellBeing_12 : decode cX11_tellBeing 12 = .ok (.getfield 260, 3) := by decide +kernel
theorem dX11_tellBeing_15 : decode cX11_tellBeing 15 = .ok (.iaload, 1) := by decide +kernel
theorem dX11_tellBeing_16 : decode cX11_tellBeing 16 = .ok (.iadd, 1) := by decide +kernel
theorem dX11_tellBeing_17 : decode cX11_tellBeing 17 = .ok (.istore_n 1, 1) := by decide +kernel
theorem dX11_tellBeing_18 : decode cX11_tellBeing 18 = .ok (.aload_n 0, 1) := by decide +kernel
theorem dX11_tellBeing_19 : decode cX11_tellBeing 19 = .ok (.invokevirtual 288, 3) := by decide +kernel
theorem dX11_tellBeing_22 : decode cX11_tellBeing 22 = .ok (.istore_n 2, 1) := by decide +kernel
theorem dX11_tellBeing_23 : decode cX11_tellBeing 23 = .ok (.aload_n 0, 1) := by decide +kernel
theorem dX11_tellBeing_24 : decode cX11_tellBeing 24 = .ok (.getfield 52, 3) := by decide +kernel
theorem dX11_tellBeing_27 : decode cX11_tellBeing 27 = .ok (.iload_n 1, 1) := by decide +kernel
theorem dX11_tellBeing_28 : decode cX11_tellBeing 28 = .ok (.aload_n 0, 1) := by decide +kernel
theorem dX11_tellBeing_29 : decode cX11_tellBeing 29 = .ok (.iconst 0, 1) := by decide +kernel
theorem dX11_tellBeing_30 : decode cX11_tellBeing 30 = .ok (.bipush 99, 2) := by decide +kernel
theorem dX11_tellBeing_32 : decode cX11_tellBeing 32 = .ok (.invokevirtual 304, 3) := by decide +kernel
theorem dX11_tellBeing_35 : decode cX11_tellBeing 35 = .ok (.iastore, 1) := by decide +kernel
theorem dX11_tellBeing_36 : decode cX11_tellBeing 36 = .ok (.aload_n 0, 1) := by decide +kernel
theorem dX11_tellBeing_37 : decode cX11_tellBeing 37 = .ok (.getfield 55, 3) := by decide +kernel
theorem dX11_tellBeing_40 : decode cX11_tellBeing 40 = .ok (.iload_n 1, 1) := by decide +kernel
theorem dX11_tellBeing_41 : decode cX11_tellBeing 41 = .ok (.iconst 0, 1) := by decide +kernel
theorem dX11_tellBeing_42 : decode cX11_tellBeing 42 = .ok (.iastore, 1) := by decide +kernel
theorem dX11_tellBeing_43 : decode cX11_tellBeing 43 = .ok (.aload_n 0, 1) := by decide +kernel
theorem dX11_tellBeing_44 : decode cX11_tellBeing 44 = .ok (.getfield 227, 3) := by decide +kernel
theorem dX11_tellBeing_47 : decode cX11_tellBeing 47 = .ok (.ifCond .ne 27, 3) := by decide +kernel
theorem dX11_tellBeing_50 : decode cX11_tellBeing 50 = .ok (.aload_n 0, 1) := by decide +kernel
theorem dX11_tellBeing_51 : decode cX11_tellBeing 51 = .ok (.iconst 1, 1) := by decide +kernel
theorem dX11_tellBeing_52 : decode cX11_tellBeing 52 = .ok (.invokevirtual 245, 3) := by decide +kernel
theorem dX11_tellBeing_55 : decode cX11_tellBeing 55 = .ok (.ifCond .eq 19, 3) := by decide +kernel
theorem dX11_tellBeing_58 : decode cX11_tellBeing 58 = .ok (.aload_n 0, 1) := by decide +kernel
theorem dX11_tellBeing_59 : decode cX11_tellBeing 59 = .ok (.getfield 55, 3) := by decide +kernel
theorem dX11_tellBeing_62 : decode cX11_tellBeing 62 = .ok (.iload_n 1, 1) := by decide +kernel
theorem dX11_tellBeing_63 : decode cX11_tellBeing 63 = .ok (.dup2, 1) := by decide +kernel
theorem dX11_tellBeing_64 : decode cX11_tellBeing 64 = .ok (.iaload, 1) := by decide +kernel
theorem dX11_tellBeing_65 : decode cX11_tellBeing 65 = .ok (.aload_n 0, 1) := by decide +kernel
theorem dX11_tellBeing_66 : decode cX11_tellBeing 66 = .ok (.invokevirtual 317, 3) := by decide +kernel
theorem dX11_tellBeing_69 : decode cX11_tellBeing 69 = .ok (.ior, 1) := by decide +kernel
theorem dX11_tellBeing_70 : decode cX11_tellBeing 70 = .ok (.iastore, 1) := by decide +kernel
theorem dX11_tellBeing_71 : decode cX11_tellBeing 71 = .ok (.goto (-28), 3) := by decide +kernel
theorem dX11_tellBeing_74 : decode cX11_tellBeing 74 = .ok (.aload_n 0, 1) := by decide +kernel
theorem dX11_tellBeing_75 : decode cX11_tellBeing 75 = .ok (.iload_n 2, 1) := by decide +kernel
theorem dX11_tellBeing_76 : decode cX11_tellBeing 76 = .ok (.iconst (-1), 1) := by decide +kernel
theorem dX11_tellBeing_77 : decode cX11_tellBeing 77 = .ok (.invokevirtual 292, 3) := by decide +kernel
theorem dX11_tellBeing_80 : decode cX11_tellBeing 80 = .ok (.aload_n 0, 1) := by decide +kernel
theorem dX11_tellBeing_81 : decode cX11_tellBeing 81 = .ok (.getfield 227, 3) := by decide +kernel
theorem dX11_tellBeing_84 : decode cX11_tellBeing 84 = .ok (.ifCond .ne 16, 3) := by decide +kernel
theorem dX11_tellBeing_87 : decode cX11_tellBeing 87 = .ok (.aload_n 0, 1) := by decide +kernel
theorem dX11_tellBeing_88 : decode cX11_tellBeing 88 = .ok (.getfield 49, 3) := by decide +kernel
theorem dX11_tellBeing_91 : decode cX11_tellBeing 91 = .ok (.aload_n 0, 1) := by decide +kernel
theorem dX11_tellBeing_92 : decode cX11_tellBeing 92 = .ok (.getfield 260, 3) := by decide +kernel
theorem dX11_tellBeing_95 : decode cX11_tellBeing 95 = .ok (.dup2, 1) := by decide +kernel
theorem dX11_tellBeing_96 : decode cX11_tellBeing 96 = .ok (.iaload, 1) := by decide +kernel
theorem dX11_tellBeing_97 : decode cX11_tellBeing 97 = .ok (.iconst 1, 1) := by decide +kernel
theorem dX11_tellBeing_98 : decode cX11_tellBeing 98 = .ok (.iadd, 1) := by decide +kernel
theorem dX11_tellBeing_99 : decode cX11_tellBeing 99 = .ok (.iastore, 1) := by decide +kernel
theorem dX11_tellBeing_100 : decode cX11_tellBeing 100 = .ok (.return_, 1) := by decide +kernel
theorem dX11_tellWay_0 : decode cX11_tellWay 0 = .ok (.iconst 4, 1) := by decide +kernel
theorem dX11_tellWay_1 : decode cX11_tellWay 1 = .ok (.aload_n 0, 1) := by decide +kernel
theorem dX11_tellWay_2 : decode cX11_tellWay 2 = .ok (.getfield 260, 3) := by decide +kernel
theorem dX11_tellWay_5 : decode cX11_tellWay 5 = .ok (.imul, 1) := by decide +kernel
theorem dX11_tellWay_6 : decode cX11_tellWay 6 = .ok (.aload_n 0, 1) := by decide +kernel
theorem dX11_tellWay_7 : decode cX11_tellWay 7 = .ok (.getfield 58, 3) := by decide +kernel
theorem dX11_tellWay_10 : decode cX11_tellWay 10 = .ok (.aload_n 0, 1) := by decide +kernel
theorem dX11_tellWay_11 : decode cX11_tellWay 11 = .ok (.getfield 260, 3) := by decide +kernel
theorem dX11_tellWay_14 : decode cX11_tellWay 14 = .ok (.iaload, 1) := by decide +kernel
theorem dX11_tellWay_15 : decode cX11_tellWay 15 = .ok (.iadd, 1) := by decide +kernel
theorem dX11_tellWay_16 : decode cX11_tellWay 16 = .ok (.istore_n 1, 1) := by decide +kernel
theorem dX11_tellWay_17 : decode cX11_tellWay 17 = .ok (.aload_n 0, 1) := by decide +kernel
theorem dX11_tellWay_18 : decode cX11_tellWay 18 = .ok (.invokevirtual 288, 3) := by decide +kernel
theorem dX11_tellWay_21 : decode cX11_tellWay 21 = .ok (.istore_n 2, 1) := by decide +kernel
theorem dX11_tellWay_22 : decode cX11_tellWay 22 = .ok (.aload_n 0, 1) := by decide +kernel
theorem dX11_tellWay_23 : decode cX11_tellWay 23 = .ok (.getfield 61, 3) := by decide +kernel
theorem dX11_tellWay_26 : decode cX11_tellWay 26 = .ok (.iload_n 1, 1) := by decide +kernel
theorem dX11_tellWay_27 : decode cX11_tellWay 27 = .ok (.aload_n 0, 1) := by decide +kernel
theorem dX11_tellWay_28 : decode cX11_tellWay 28 = .ok (.iconst 0, 1) := by decide +kernel
theorem dX11_tellWay_29 : decode cX11_tellWay 29 = .ok (.bipush 99, 2) := by decide +kernel
theorem dX11_tellWay_31 : decode cX11_tellWay 31 = .ok (.invokevirtual 304, 3) := by decide +kernel
theorem dX11_tellWay_34 : decode cX11_tellWay 34 = .ok (.iastore, 1) := by decide +kernel
theorem dX11_tellWay_35 : decode cX11_tellWay 35 = .ok (.aload_n 0, 1) := by decide +kernel
theorem dX11_tellWay_36 : decode cX11_tellWay 36 = .ok (.getfield 64, 3) := by decide +kernel
theorem dX11_tellWay_39 : decode cX11_tellWay 39 = .ok (.iload_n 1, 1) := by decide +kernel
theorem dX11_tellWay_40 : decode cX11_tellWay 40 = .ok (.iconst 0, 1) := by decide +kernel
theorem dX11_tellWay_41 : decode cX11_tellWay 41 = .ok (.iastore, 1) := by decide +kernel
theorem dX11_tellWay_42 : decode cX11_tellWay 42 = .ok (.aload_n 0, 1) := by decide +kernel
theorem dX11_tellWay_43 : decode cX11_tellWay 43 = .ok (.getfield 67, 3) := by decide +kernel
theorem dX11_tellWay_46 : decode cX11_tellWay 46 = .ok (.iload_n 1, 1) := by decide +kernel
theorem dX11_tellWay_47 : decode cX11_tellWay 47 = .ok (.iconst 0, 1) := by decide +kernel
theorem dX11_tellWay_48 : decode cX11_tellWay 48 = .ok (.iastore, 1) := by decide +kernel
theorem dX11_tellWay_49 : decode cX11_tellWay 49 = .ok (.aload_n 0, 1) := by decide +kernel
theorem dX11_tellWay_50 : decode cX11_tellWay 50 = .ok (.getfield 227, 3) := by decide +kernel
theorem dX11_tellWay_53 : decode cX11_tellWay 53 = .ok (.ifCond .ne 107, 3) := by decide +kernel
theorem dX11_tellWay_56 : decode cX11_tellWay 56 = .ok (.aload_n 0, 1) := by decide +kernel
theorem dX11_tellWay_57 : decode cX11_tellWay 57 = .ok (.bipush 24, 2) := by decide +kernel
theorem dX11_tellWay_59 : decode cX11_tellWay 59 = .ok (.invokevirtual 245, 3) := by decide +kernel
theorem dX11_tellWay_62 : decode cX11_tellWay 62 = .ok (.ifCond .ne 12, 3) := by decide +kernel
theorem dX11_tellWay_65 : decode cX11_tellWay 65 = .ok (.aload_n 0, 1) := by decide +kernel
theorem dX11_tellWay_66 : decode cX11_tellWay 66 = .ok (.bipush 25, 2) := by decide +kernel
theorem dX11_tellWay_68 : decode cX11_tellWay 68 = .ok (.invokevirtual 245, 3) := by decide +kernel
theorem dX11_tellWay_71 : decode cX11_tellWay 71 = .ok (.ifCond .eq 89, 3) := by decide +kernel
theorem dX11_tellWay_74 : decode cX11_tellWay 74 = .ok (.aload_n 0, 1) := by decide +kernel
theorem dX11_tellWay_75 : decode cX11_tellWay 75 = .ok (.bipush 24, 2) := by decide +kernel
theorem dX11_tellWay_77 : decode cX11_tellWay 77 = .ok (.invokevirtual 245, 3) := by decide +kernel
theorem dX11_tellWay_80 : decode cX11_tellWay 80 = .ok (.istore_n 3, 1) := by decide +kernel
theorem dX11_tellWay_81 : decode cX11_tellWay 81 = .ok (.aload_n 0, 1) := by decide +kernel
theorem dX11_tellWay_82 : decode cX11_tellWay 82 = .ok (.invokevirtual 248, 3) := by decide +kernel
theorem dX11_tellWay_85 : decode cX11_tellWay 85 = .ok (.aload_n 0, 1) := by decide +kernel
theorem dX11_tellWay_86 : decode cX11_tellWay 86 = .ok (.invokevirtual 317, 3) := by decide +kernel
theorem dX11_tellWay_89 : decode cX11_tellWay 89 = .ok (.istore 4, 2) := by decide +kernel
theorem dX11_tellWay_91 : decode cX11_tellWay 91 = .ok (.aload_n 0, 1) := by decide +kernel
theorem dX11_tellWay_92 : decode cX11_tellWay 92 = .ok (.getfield 64, 3) := by decide +kernel
theorem dX11_tellWay_95 : decode cX11_tellWay 95 = .ok (.iload_n 1, 1) := by decide +kernel
theorem dX11_tellWay_96 : decode cX11_tellWay 96 = .ok (.iload_n 3, 1) := by decide +kernel
theorem dX11_tellWay_97 : decode cX11_tellWay 97 = .ok (.ifCond .eq 15, 3) := by decide +kernel
theorem dX11_tellWay_100 : decode cX11_tellWay 100 = .ok (.aload_n 0, 1) := by decide +kernel
theorem dX11_tellWay_101 : decode cX11_tellWay 101 = .ok (.getfield 64, 3) := by decide +kernel
theorem dX11_tellWay_104 : decode cX11_tellWay 104 = .ok (.iload_n 1, 1) := by decide +kernel
theorem dX11_tellWay_105 : decode cX11_tellWay 105 = .ok (.iaload, 1) := by decide +kernel
theorem dX11_tellWay_106 : decode cX11_tellWay 106 = .ok (.iload 4, 2) := by decide +kernel
theorem dX11_tellWay_108 : decode cX11_tellWay 108 = .ok (.ior, 1) := by decide +kernel
theorem dX11_tellWay_109 : decode cX11_tellWay 109 = .ok (.goto 14, 3) := by decide +kernel
theorem dX11_tellWay_112 : decode cX11_tellWay 112 = .ok (.aload_n 0, 1) := by decide +kernel
theorem dX11_tellWay_113 : decode cX11_tellWay 113 = .ok (.getfield 64, 3) := by decide +kernel
theorem dX11_tellWay_116 : decode cX11_tellWay 116 = .ok (.iload_n 1, 1) := by decide +kernel
theorem dX11_tellWay_117 : decode cX11_tellWay 117 = .ok (.iaload, 1) := by decide +kernel
theorem dX11_tellWay_118 : decode cX11_tellWay 118 = .ok (.iload 4, 2) := by decide +kernel
theorem dX11_tellWay_120 : decode cX11_tellWay 120 = .ok (.iconst (-1), 1) := by decide +kernel
theorem dX11_tellWay_121 : decode cX11_tellWay 121 = .ok (.ixor, 1) := by decide +kernel
theorem dX11_tellWay_122 : decode cX11_tellWay 122 = .ok (.iand, 1) := by decide +kernel
theorem dX11_tellWay_123 : decode cX11_tellWay 123 = .ok (.iastore, 1) := by decide +kernel
theorem dX11_tellWay_124 : decode cX11_tellWay 124 = .ok (.aload_n 0, 1) := by decide +kernel
theorem dX11_tellWay_125 : decode cX11_tellWay 125 = .ok (.getfield 67, 3) := by decide +kernel
theorem dX11_tellWay_128 : decode cX11_tellWay 128 = .ok (.iload_n 1, 1) := by decide +kernel
theorem dX11_tellWay_129 : decode cX11_tellWay 129 = .ok (.iload_n 3, 1) := by decide +kernel
theorem dX11_tellWay_130 : decode cX11_tellWay 130 = .ok (.ifCond .eq 17, 3) := by decide +kernel
theorem dX11_tellWay_133 : decode cX11_tellWay 133 = .ok (.aload_n 0, 1) := by decide +kernel
theorem dX11_tellWay_134 : decode cX11_tellWay 134 = .ok (.getfield 67, 3) := by decide +kernel
theorem dX11_tellWay_137 : decode cX11_tellWay 137 = .ok (.iload_n 1, 1) := by decide +kernel
theorem dX11_tellWay_138 : decode cX11_tellWay 138 = .ok (.iaload, 1) := by decide +kernel
theorem dX11_tellWay_139 : decode cX11_tellWay 139 = .ok (.iload 4, 2) := by decide +kernel
theorem dX11_tellWay_141 : decode cX11_tellWay 141 = .ok (.iconst (-1), 1) := by decide +kernel
theorem dX11_tellWay_142 : decode cX11_tellWay 142 = .ok (.ixor, 1) := by decide +kernel
theorem dX11_tellWay_143 : decode cX11_tellWay 143 = .ok (.iand, 1) := by decide +kernel
theorem dX11_tellWay_144 : decode cX11_tellWay 144 = .ok (.goto 12, 3) := by decide +kernel
theorem dX11_tellWay_147 : decode cX11_tellWay 147 = .ok (.aload_n 0, 1) := by decide +kernel
theorem dX11_tellWay_148 : decode cX11_tellWay 148 = .ok (.getfield 67, 3) := by decide +kernel
theorem dX11_tellWay_151 : decode cX11_tellWay 151 = .ok (.iload_n 1, 1) := by decide +kernel
theorem dX11_tellWay_152 : decode cX11_tellWay 152 = .ok (.iaload, 1) := by decide +kernel
theorem dX11_tellWay_153 : decode cX11_tellWay 153 = .ok (.iload 4, 2) := by decide +kernel
theorem dX11_tellWay_155 : decode cX11_tellWay 155 = .ok (.ior, 1) := by decide +kernel
theorem dX11_tellWay_156 : decode cX11_tellWay 156 = .ok (.iastore, 1) := by decide +kernel
theorem dX11_tellWay_157 : decode cX11_tellWay 157 = .ok (.goto (-108), 3) := by decide +kernel
theorem dX11_tellWay_160 : decode cX11_tellWay 160 = .ok (.aload_n 0, 1) := by decide +kernel
theorem dX11_tellWay_161 : decode cX11_tellWay 161 = .ok (.iload_n 2, 1) := by decide +kernel
theorem dX11_tellWay_162 : decode cX11_tellWay 162 = .ok (.iconst (-1), 1) := by decide +kernel
theorem dX11_tellWay_163 : decode cX11_tellWay 163 = .ok (.invokevirtual 292, 3) := by decide +kernel
theorem dX11_tellWay_166 : decode cX11_tellWay 166 = .ok (.aload_n 0, 1) := by decide +kernel
theorem dX11_tellWay_167 : decode cX11_tellWay 167 = .ok (.getfield 227, 3) := by decide +kernel
theorem dX11_tellWay_170 : decode cX11_tellWay 170 = .ok (.ifCond .ne 16, 3) := by decide +kernel
theorem dX11_tellWay_173 : decode cX11_tellWay 173 = .ok (.aload_n 0, 1) := by decide +kernel
theorem dX11_tellWay_174 : decode cX11_tellWay 174 = .ok (.getfield 58, 3) := by decide +kernel
theorem dX11_tellWay_177 : decode cX11_tellWay 177 = .ok (.aload_n 0, 1) := by decide +kernel
theorem dX11_tellWay_178 : decode cX11_tellWay 178 = .ok (.getfield 260, 3) := by decide +kernel
theorem dX11_tellWay_181 : decode cX11_tellWay 181 = .ok (.dup2, 1) := by decide +kernel
theorem dX11_tellWay_182 : decode cX11_tellWay 182 = .ok (.iaload, 1) := by decide +kernel
theorem dX11_tellWay_183 : decode cX11_tellWay 183 = .ok (.iconst 1, 1) := by decide +kernel
theorem dX11_tellWay_184 : decode cX11_tellWay 184 = .ok (.iadd, 1) := by decide +kernel
theorem dX11_tellWay_185 : decode cX11_tellWay 185 = .ok (.iastore, 1) := by decide +kernel
theorem dX11_tellWay_186 : decode cX11_tellWay 186 = .ok (.return_, 1) := by decide +kernel
theorem dX11_tellBridge_0 : decode cX11_tellBridge 0 = .ok (.iconst 4, 1) := by decide +kernel
theorem dX11_tellBridge_1 : decode cX11_tellBridge 1 = .ok (.aload_n 0, 1) := by decide +kernel
theorem dX11_tellBridge_2 : decode cX11_tellBridge 2 = .ok (.getfield 260, 3) := by decide +kernel
theorem dX11_tellBridge_5 : decode cX11_tellBridge 5 = .ok (.imul, 1) := by decide +kernel
theorem dX11_tellBridge_6 : decode cX11_tellBridge 6 = .ok (.aload_n 0, 1) := by decide +kernel
theorem dX11_tellBridge_7 : decode cX11_tellBridge 7 = .ok (.getfield 70, 3) := by decide +kernel
theorem dX11_tellBridge_10 : decode cX11_tellBridge 10 = .ok (.aload_n 0, 1) := by decide +kernel
theorem dX11_tellBridge_11 : decode cX11_tellBridge 11 = .ok (.getfield 260, 3) := by decide +kernel
theorem dX11_tellBridge_14 : decode cX11_tellBridge 14 = .ok (.iaload, 1) := by decide +kernel
theorem dX11_tellBridge_15 : decode cX11_tellBridge 15 = .ok (.iadd, 1) := by decide +kernel
theorem dX11_tellBridge_16 : decode cX11_tellBridge 16 = .ok (.istore_n 1, 1) := by decide +kernel
theorem dX11_tellBridge_17 : decode cX11_tellBridge 17 = .ok (.aload_n 0, 1) := by decide +kernel
theorem dX11_tellBridge_18 : decode cX11_tellBridge 18 = .ok (.invokevirtual 288, 3) := by decide +kernel
theorem dX11_tellBridge_21 : decode cX11_tellBridge 21 = .ok (.istore_n 2, 1) := by decide +kernel
theorem dX11_tellBridge_22 : decode cX11_tellBridge 22 = .ok (.aload_n 0, 1) := by decide +kernel
theorem dX11_tellBridge_23 : decode cX11_tellBridge 23 = .ok (.getfield 73, 3) := by decide +kernel
theorem dX11_tellBridge_26 : decode cX11_tellBridge 26 = .ok (.iload_n 1, 1) := by decide +kernel
theorem dX11_tellBridge_27 : decode cX11_tellBridge 27 = .ok (.aload_n 0, 1) := by decide +kernel
theorem dX11_tellBridge_28 : decode cX11_tellBridge 28 = .ok (.iconst 1, 1) := by decide +kernel
theorem dX11_tellBridge_29 : decode cX11_tellBridge 29 = .ok (.bipush 99, 2) := by decide +kernel
theorem dX11_tellBridge_31 : decode cX11_tellBridge 31 = .ok (.invokevirtual 304, 3) := by decide +kernel
theorem dX11_tellBridge_34 : decode cX11_tellBridge 34 = .ok (.iastore, 1) := by decide +kernel
theorem dX11_tellBridge_35 : decode cX11_tellBridge 35 = .ok (.aload_n 0, 1) := by decide +kernel
theorem dX11_tellBridge_36 : decode cX11_tellBridge 36 = .ok (.getfield 76, 3) := by decide +kernel
theorem dX11_tellBridge_39 : decode cX11_tellBridge 39 = .ok (.iload_n 1, 1) := by decide +kernel
theorem dX11_tellBridge_40 : decode cX11_tellBridge 40 = .ok (.aload_n 0, 1) := by decide +kernel
theorem dX11_tellBridge_41 : decode cX11_tellBridge 41 = .ok (.iconst 0, 1) := by decide +kernel
theorem dX11_tellBridge_42 : decode cX11_tellBridge 42 = .ok (.bipush 99, 2) := by decide +kernel
theorem dX11_tellBridge_44 : decode cX11_tellBridge 44 = .ok (.invokevirtual 304, 3) := by decide +kernel
theorem dX11_tellBridge_47 : decode cX11_tellBridge 47 = .ok (.iastore, 1) := by decide +kernel
theorem dX11_tellBridge_48 : decode cX11_tellBridge 48 = .ok (.aload_n 0, 1) := by decide +kernel
theorem dX11_tellBridge_49 : decode cX11_tellBridge 49 = .ok (.iconst 5, 1) := by decide +kernel
theorem dX11_tellBridge_50 : decode cX11_tellBridge 50 = .ok (.invokevirtual 308, 3) := by decide +kernel
theorem dX11_tellBridge_53 : decode cX11_tellBridge 53 = .ok (.aload_n 0, 1) := by decide +kernel
theorem dX11_tellBridge_54 : decode cX11_tellBridge 54 = .ok (.getfield 79, 3) := by decide +kernel
theorem dX11_tellBridge_57 : decode cX11_tellBridge 57 = .ok (.iload_n 1, 1) := by decide +kernel
theorem dX11_tellBridge_58 : decode cX11_tellBridge 58 = .ok (.aload_n 0, 1) := by decide +kernel
theorem dX11_tellBridge_59 : decode cX11_tellBridge 59 = .ok (.getfield 272, 3) := by decide +kernel
theorem dX11_tellBridge_62 : decode cX11_tellBridge 62 = .ok (.iastore, 1) := by decide +kernel
theorem dX11_tellBridge_63 : decode cX11_tellBridge 63 = .ok (.aload_n 0, 1) := by decide +kernel
theorem dX11_tellBridge_64 : decode cX11_tellBridge 64 = .ok (.getfield 227, 3) := by decide +kernel
theorem dX11_tellBridge_67 : decode cX11_tellBridge 67 = .ok (.ifCond .ne 7, 3) := by decide +kernel
theorem dX11_tellBridge_70 : decode cX11_tellBridge 70 = .ok (.aload_n 0, 1) := by decide +kernel
theorem dX11_tellBridge_71 : decode cX11_tellBridge 71 = .ok (.invokevirtual 320, 3) := by decide +kernel
theorem dX11_tellBridge_74 : decode cX11_tellBridge 74 = .ok (.aload_n 0, 1) := by decide +kernel
theorem dX11_tellBridge_75 : decode cX11_tellBridge 75 = .ok (.getfield 82, 3) := by decide +kernel
theorem dX11_tellBridge_78 : decode cX11_tellBridge 78 = .ok (.iload_n 1, 1) := by decide +kernel
theorem dX11_tellBridge_79 : decode cX11_tellBridge 79 = .ok (.aload_n 0, 1) := by decide +kernel
theorem dX11_tellBridge_80 : decode cX11_tellBridge 80 = .ok (.getfield 272, 3) := by decide +kernel
theorem dX11_tellBridge_83 : decode cX11_tellBridge 83 = .ok (.iastore, 1) := by decide +kernel
theorem dX11_tellBridge_84 : decode cX11_tellBridge 84 = .ok (.aload_n 0, 1) := by decide +kernel
theorem dX11_tellBridge_85 : decode cX11_tellBridge 85 = .ok (.iload_n 2, 1) := by decide +kernel
theorem dX11_tellBridge_86 : decode cX11_tellBridge 86 = .ok (.iconst (-1), 1) := by decide +kernel
theorem dX11_tellBridge_87 : decode cX11_tellBridge 87 = .ok (.invokevirtual 292, 3) := by decide +kernel
theorem dX11_tellBridge_90 : decode cX11_tellBridge 90 = .ok (.aload_n 0, 1) := by decide +kernel
theorem dX11_tellBridge_91 : decode cX11_tellBridge 91 = .ok (.getfield 227, 3) := by decide +kernel
theorem dX11_tellBridge_94 : decode cX11_tellBridge 94 = .ok (.ifCond .ne 16, 3) := by decide +kernel
theorem dX11_tellBridge_97 : decode cX11_tellBridge 97 = .ok (.aload_n 0, 1) := by decide +kernel
theorem dX11_tellBridge_98 : decode cX11_tellBridge 98 = .ok (.getfield 70, 3) := by decide +kernel
theorem dX11_tellBridge_101 : decode cX11_tellBridge 101 = .ok (.aload_n 0, 1) := by decide +kernel
theorem dX11_tellBridge_102 : decode cX11_tellBridge 102 = .ok (.getfield 260, 3) := by decide +kernel
theorem dX11_tellBridge_105 : decode cX11_tellBridge 105 = .ok (.dup2, 1) := by decide +kernel
theorem dX11_tellBridge_106 : decode cX11_tellBridge 106 = .ok (.iaload, 1) := by decide +kernel
theorem dX11_tellBridge_107 : decode cX11_tellBridge 107 = .ok (.iconst 1, 1) := by decide +kernel
theorem dX11_tellBridge_108 : decode cX11_tellBridge 108 = .ok (.iadd, 1) := by decide +kernel
theorem dX11_tellBridge_109 : decode cX11_tellBridge 109 = .ok (.iastore, 1) := by decide +kernel
theorem dX11_tellBridge_110 : decode cX11_tellBridge 110 = .ok (.return_, 1) := by decide +kernel
theorem dX11_waitsFor_0 : decode cX11_waitsFor 0 = .ok (.aload_n 0, 1) := by decide +kernel
theorem dX11_waitsFor_1 : decode cX11_waitsFor 1 = .ok (.getfield 122, 3) := by decide +kernel
theorem dX11_waitsFor_4 : decode cX11_waitsFor 4 = .ok (.aload_n 0, 1) := by decide +kernel
theorem dX11_waitsFor_5 : decode cX11_waitsFor 5 = .ok (.getfield 323, 3) := by decide +kernel
theorem dX11_waitsFor_8 : decode cX11_waitsFor 8 = .ok (.iload_n 1, 1) := by decide +kernel
theorem dX11_waitsFor_9 : decode cX11_waitsFor 9 = .ok (.iastore, 1) := by decide +kernel
theorem dX11_waitsFor_10 : decode cX11_waitsFor 10 = .ok (.aload_n 0, 1) := by decide +kernel
theorem dX11_waitsFor_11 : decode cX11_waitsFor 11 = .ok (.dup, 1) := by decide +kernel
theorem dX11_waitsFor_12 : decode cX11_waitsFor 12 = .ok (.getfield 323, 3) := by decide +kernel
theorem dX11_waitsFor_15 : decode cX11_waitsFor 15 = .ok (.iconst 1, 1) := by decide +kernel
theorem dX11_waitsFor_16 : decode cX11_waitsFor 16 = .ok (.iadd, 1) := by decide +kernel
theorem dX11_waitsFor_17 : decode cX11_waitsFor 17 = .ok (.putfield 323, 3) := by decide +kernel
theorem dX11_waitsFor_20 : decode cX11_waitsFor 20 = .ok (.aload_n 0, 1) := by decide +kernel
theorem dX11_waitsFor_21 : decode cX11_waitsFor 21 = .ok (.invokevirtual 248, 3) := by decide +kernel
theorem dX11_waitsFor_24 : decode cX11_waitsFor 24 = .ok (.return_, 1) := by decide +kernel
theorem dX11_isTop_0 : decode cX11_isTop 0 = .ok (.aload_n 0, 1) := by decide +kernel
theorem dX11_isTop_1 : decode cX11_isTop 1 = .ok (.getfield 323, 3) := by decide +kernel
theorem dX11_isTop_4 : decode cX11_isTop 4 = .ok (.ifCond .le 22, 3) := by decide +kernel
theorem dX11_isTop_7 : decode cX11_isTop 7 = .ok (.aload_n 0, 1) := by decide +kernel
theorem dX11_isTop_8 : decode cX11_isTop 8 = .ok (.getfield 122, 3) := by decide +kernel
theorem dX11_isTop_11 : decode cX11_isTop 11 = .ok (.aload_n 0, 1) := by decide +kernel
theorem dX11_isTop_12 : decode cX11_isTop 12 = .ok (.getfield 323, 3) := by decide +kernel
theorem dX11_isTop_15 : decode cX11_isTop 15 = .ok (.iconst 1, 1) := by decide +kernel
theorem dX11_isTop_16 : decode cX11_isTop 16 = .ok (.isub, 1) := by decide +kernel
theorem dX11_isTop_17 : decode cX11_isTop 17 = .ok (.iaload, 1) := by decide +kernel
theorem dX11_isTop_18 : decode cX11_isTop 18 = .ok (.iload_n 1, 1) := by decide +kernel
theorem dX11_isTop_19 : decode cX11_isTop 19 = .ok (.if_icmp .ne 7, 3) := by decide +kernel
theorem dX11_isTop_22 : decode cX11_isTop 22 = .ok (.iconst 1, 1) := by decide +kernel
theorem dX11_isTop_23 : decode cX11_isTop 23 = .ok (.goto 4, 3) := by decide +kernel
theorem dX11_isTop_26 : decode cX11_isTop 26 = .ok (.iconst 0, 1) := by decide +kernel
theorem dX11_isTop_27 : decode cX11_isTop 27 = .ok (.ireturn, 1) := by decide +kernel
theorem dX11_emitWord_0 : decode cX11_emitWord 0 = .ok (.aload_n 0, 1) := by decide +kernel
theorem dX11_emitWord_1 : decode cX11_emitWord 1 = .ok (.getfield 85, 3) := by decide +kernel
theorem dX11_emitWord_4 : decode cX11_emitWord 4 = .ok (.aload_n 0, 1) := by decide +kernel
theorem dX11_emitWord_5 : decode cX11_emitWord 5 = .ok (.getfield 272, 3) := by decide +kernel
theorem dX11_emitWord_8 : decode cX11_emitWord 8 = .ok (.iload_n 1, 1) := by decide +kernel
theorem dX11_emitWord_9 : decode cX11_emitWord 9 = .ok (.iastore, 1) := by decide +kernel
theorem dX11_emitWord_10 : decode cX11_emitWord 10 = .ok (.aload_n 0, 1) := by decide +kernel
theorem dX11_emitWord_11 : decode cX11_emitWord 11 = .ok (.dup, 1) := by decide +kernel
theorem dX11_emitWord_12 : decode cX11_emitWord 12 = .ok (.getfield 272, 3) := by decide +kernel
theorem dX11_emitWord_15 : decode cX11_emitWord 15 = .ok (.iconst 1, 1) := by decide +kernel
theorem dX11_emitWord_16 : decode cX11_emitWord 16 = .ok (.iadd, 1) := by decide +kernel
theorem dX11_emitWord_17 : decode cX11_emitWord 17 = .ok (.putfield 272, 3) := by decide +kernel
theorem dX11_emitWord_20 : decode cX11_emitWord 20 = .ok (.return_, 1) := by decide +kernel
theorem dX11_wordComes_0 : decode cX11_wordComes 0 = .ok (.aload_n 0, 1) := by decide +kernel
theorem dX11_wordComes_1 : decode cX11_wordComes 1 = .ok (.dup, 1) := by decide +kernel
theorem dX11_wordComes_2 : decode cX11_wordComes 2 = .ok (.getfield 323, 3) := by decide +kernel
theorem dX11_wordComes_5 : decode cX11_wordComes 5 = .ok (.iconst 1, 1) := by decide +kernel
theorem dX11_wordComes_6 : decode cX11_wordComes 6 = .ok (.isub, 1) := by decide +kernel
theorem dX11_wordComes_7 : decode cX11_wordComes 7 = .ok (.putfield 323, 3) := by decide +kernel
theorem dX11_wordComes_10 : decode cX11_wordComes 10 = .ok (.aload_n 0, 1) := by decide +kernel
theorem dX11_wordComes_11 : decode cX11_wordComes 11 = .ok (.getfield 122, 3) := by decide +kernel
theorem dX11_wordComes_14 : decode cX11_wordComes 14 = .ok (.aload_n 0, 1) := by decide +kernel
theorem dX11_wordComes_15 : decode cX11_wordComes 15 = .ok (.getfield 323, 3) := by decide +kernel
theorem dX11_wordComes_18 : decode cX11_wordComes 18 = .ok (.iaload, 1) := by decide +kernel
theorem dX11_wordComes_19 : decode cX11_wordComes 19 = .ok (.istore_n 1, 1) := by decide +kernel
theorem dX11_wordComes_20 : decode cX11_wordComes 20 = .ok (.aload_n 0, 1) := by decide +kernel
theorem dX11_wordComes_21 : decode cX11_wordComes 21 = .ok (.iload_n 1, 1) := by decide +kernel
theorem dX11_wordComes_22 : decode cX11_wordComes 22 = .ok (.bipush 28, 2) := by decide +kernel
theorem dX11_wordComes_24 : decode cX11_wordComes 24 = .ok (.if_icmp .ne 8, 3) := by decide +kernel
