theorem dX12_init_0 : decode cX12_init 0 = .ok (.aload_n 0, 1) := by decide +kernel
theorem dX12_init_1 : decode cX12_init 1 = .ok (.invokespecial 1, 3) := by decide +kernel
theorem dX12_init_4 : decode cX12_init 4 = .ok (.aload_n 0, 1) := by decide +kernel
theorem dX12_init_5 : decode cX12_init 5 = .ok (.sipush 1001, 3) := by decide +kernel
theorem dX12_init_8 : decode cX12_init 8 = .ok (.newarray .boolean, 2) := by decide +kernel
theorem dX12_init_10 : decode cX12_init 10 = .ok (.putfield 7, 3) := by decide +kernel
theorem dX12_init_13 : decode cX12_init 13 = .ok (.aload_n 0, 1) := by decide +kernel
theorem dX12_init_14 : decode cX12_init 14 = .ok (.bipush 24, 2) := by decide +kernel
theorem dX12_init_16 : decode cX12_init 16 = .ok (.newarray .int, 2) := by decide +kernel
theorem dX12_init_18 : decode cX12_init 18 = .ok (.putfield 13, 3) := by decide +kernel
theorem dX12_init_21 : decode cX12_init 21 = .ok (.aload_n 0, 1) := by decide +kernel
theorem dX12_init_22 : decode cX12_init 22 = .ok (.bipush 24, 2) := by decide +kernel
theorem dX12_init_24 : decode cX12_init 24 = .ok (.newarray .int, 2) := by decide +kernel
theorem dX12_init_26 : decode cX12_init 26 = .ok (.putfield 17, 3) := by decide +kernel
theorem dX12_init_29 : decode cX12_init 29 = .ok (.aload_n 0, 1) := by decide +kernel
theorem dX12_init_30 : decode cX12_init 30 = .ok (.bipush 24, 2) := by decide +kernel
theorem dX12_init_32 : decode cX12_init 32 = .ok (.newarray .int, 2) := by decide +kernel
theorem dX12_init_34 : decode cX12_init 34 = .ok (.putfield 20, 3) := by decide +kernel
theorem dX12_init_37 : decode cX12_init 37 = .ok (.aload_n 0, 1) := by decide +kernel
theorem dX12_init_38 : decode cX12_init 38 = .ok (.bipush 48, 2) := by decide +kernel
theorem dX12_init_40 : decode cX12_init 40 = .ok (.newarray .int, 2) := by decide +kernel
theorem dX12_init_42 : decode cX12_init 42 = .ok (.putfield 23, 3) := by decide +kernel
theorem dX12_init_45 : decode cX12_init 45 = .ok (.aload_n 0, 1) := by decide +kernel
theorem dX12_init_46 : decode cX12_init 46 = .ok (.bipush 48, 2) := by decide +kernel
theorem dX12_init_48 : decode cX12_init 48 = .ok (.newarray .int, 2) := by decide +kernel
theorem dX12_init_50 : decode cX12_init 50 = .ok (.putfield 26, 3) := by decide +kernel
theorem dX12_init_53 : decode cX12_init 53 = .ok (.aload_n 0, 1) := by decide +kernel
theorem dX12_init_54 : decode cX12_init 54 = .ok (.bipush 24, 2) := by decide +kernel
theorem dX12_init_56 : decode cX12_init 56 = .ok (.newarray .boolean, 2) := by decide +kernel
theorem dX12_init_58 : decode cX12_init 58 = .ok (.putfield 29, 3) := by decide +kernel
theorem dX12_init_61 : decode cX12_init 61 = .ok (.aload_n 0, 1) := by decide +kernel
theorem dX12_init_62 : decode cX12_init 62 = .ok (.bipush 7, 2) := by decide +kernel
theorem dX12_init_64 : decode cX12_init 64 = .ok (.newarray .int, 2) := by decide +kernel
theorem dX12_init_66 : decode cX12_init 66 = .ok (.putfield 32, 3) := by decide +kernel
theorem dX12_init_69 : decode cX12_init 69 = .ok (.aload_n 0, 1) := by decide +kernel
theorem dX12_init_70 : decode cX12_init 70 = .ok (.bipush 60, 2) := by decide +kernel
theorem dX12_init_72 : decode cX12_init 72 = .ok (.newarray .int, 2) := by decide +kernel
theorem dX12_init_74 : decode cX12_init 74 = .ok (.putfield 35, 3) := by decide +kernel
theorem dX12_init_77 : decode cX12_init 77 = .ok (.aload_n 0, 1) := by decide +kernel
theorem dX12_init_78 : decode cX12_init 78 = .ok (.sipush 1440, 3) := by decide +kernel
theorem dX12_init_81 : decode cX12_init 81 = .ok (.newarray .int, 2) := by decide +kernel
theorem dX12_init_83 : decode cX12_init 83 = .ok (.putfield 38, 3) := by decide +kernel
theorem dX12_init_86 : decode cX12_init 86 = .ok (.aload_n 0, 1) := by decide +kernel
theorem dX12_init_87 : decode cX12_init 87 = .ok (.bipush 24, 2) := by decide +kernel
theorem dX12_init_89 : decode cX12_init 89 = .ok (.newarray .int, 2) := by decide +kernel
theorem dX12_init_91 : decode cX12_init 91 = .ok (.putfield 41, 3) := by decide +kernel
theorem dX12_init_94 : decode cX12_init 94 = .ok (.aload_n 0, 1) := by decide +kernel
theorem dX12_init_95 : decode cX12_init 95 = .ok (.bipush 24, 2) := by decide +kernel
theorem dX12_init_97 : decode cX12_init 97 = .ok (.newarray .int, 2) := by decide +kernel
theorem dX12_init_99 : decode cX12_init 99 = .ok (.putfield 44, 3) := by decide +kernel
theorem dX12_init_102 : decode cX12_init 102 = .ok (.aload_n 0, 1) := by decide +kernel
theorem dX12_init_103 : decode cX12_init 103 = .ok (.bipush 24, 2) := by decide +kernel
theorem dX12_init_105 : decode cX12_init 105 = .ok (.newarray .int, 2) := by decide +kernel
theorem dX12_init_107 : decode cX12_init 107 = .ok (.putfield 47, 3) := by decide +kernel
theorem dX12_init_110 : decode cX12_init 110 = .ok (.aload_n 0, 1) := by decide +kernel
theorem dX12_init_111 : decode cX12_init 111 = .ok (.bipush 6, 2) := by decide +kernel
theorem dX12_init_113 : decode cX12_init 113 = .ok (.newarray .int, 2) := by decide +kernel
theorem dX12_init_115 : decode cX12_init 115 = .ok (.putfield 50, 3) := by decide +kernel
theorem dX12_init_118 : decode cX12_init 118 = .ok (.aload_n 0, 1) := by decide +kernel
theorem dX12_init_119 : decode cX12_init 119 = .ok (.bipush 80, 2) := by decide +kernel
theorem dX12_init_121 : decode cX12_init 121 = .ok (.newarray .int, 2) := by decide +kernel
theorem dX12_init_123 : decode cX12_init 123 = .ok (.putfield 53, 3) := by decide +kernel
theorem dX12_init_126 : decode cX12_init 126 = .ok (.aload_n 0, 1) := by decide +kernel
theorem dX12_init_127 : decode cX12_init 127 = .ok (.bipush 80, 2) := by decide +kernel
theorem dX12_init_129 : decode cX12_init 129 = .ok (.newarray .boolean, 2) := by decide +kernel
theorem dX12_init_131 : decode cX12_init 131 = .ok (.putfield 56, 3) := by decide +kernel
theorem dX12_init_134 : decode cX12_init 134 = .ok (.aload_n 0, 1) := by decide +kernel
theorem dX12_init_135 : decode cX12_init 135 = .ok (.bipush 24, 2) := by decide +kernel
theorem dX12_init_137 : decode cX12_init 137 = .ok (.newarray .boolean, 2) := by decide +kernel
theorem dX12_init_139 : decode cX12_init 139 = .ok (.putfield 59, 3) := by decide +kernel
theorem dX12_init_142 : decode cX12_init 142 = .ok (.aload_n 0, 1) := by decide +kernel
theorem dX12_init_143 : decode cX12_init 143 = .ok (.iconst 5, 1) := by decide +kernel
theorem dX12_init_144 : decode cX12_init 144 = .ok (.newarray .int, 2) := by decide +kernel
theorem dX12_init_146 : decode cX12_init 146 = .ok (.putfield 62, 3) := by decide +kernel
theorem dX12_init_149 : decode cX12_init 149 = .ok (.aload_n 0, 1) := by decide +kernel
theorem dX12_init_150 : decode cX12_init 150 = .ok (.iconst 5, 1) := by decide +kernel
theorem dX12_init_151 : decode cX12_init 151 = .ok (.newarray .int, 2) := by decide +kernel
theorem dX12_init_153 : decode cX12_init 153 = .ok (.putfield 65, 3) := by decide +kernel
theorem dX12_init_156 : decode cX12_init 156 = .ok (.aload_n 0, 1) := by decide +kernel
theorem dX12_init_157 : decode cX12_init 157 = .ok (.iconst 5, 1) := by decide +kernel
theorem dX12_init_158 : decode cX12_init 158 = .ok (.newarray .int, 2) := by decide +kernel
theorem dX12_init_160 : decode cX12_init 160 = .ok (.putfield 68, 3) := by decide +kernel
theorem dX12_init_163 : decode cX12_init 163 = .ok (.aload_n 0, 1) := by decide +kernel
theorem dX12_init_164 : decode cX12_init 164 = .ok (.bipush 40, 2) := by decide +kernel
theorem dX12_init_166 : decode cX12_init 166 = .ok (.newarray .int, 2) := by decide +kernel
theorem dX12_init_168 : decode cX12_init 168 = .ok (.putfield 71, 3) := by decide +kernel
theorem dX12_init_171 : decode cX12_init 171 = .ok (.aload_n 0, 1) := by decide +kernel
theorem dX12_init_172 : decode cX12_init 172 = .ok (.bipush 40, 2) := by decide +kernel
theorem dX12_init_174 : decode cX12_init 174 = .ok (.newarray .int, 2) := by decide +kernel
theorem dX12_init_176 : decode cX12_init 176 = .ok (.putfield 74, 3) := by decide +kernel
theorem dX12_init_179 : decode cX12_init 179 = .ok (.aload_n 0, 1) := by decide +kernel
theorem dX12_init_180 : decode cX12_init 180 = .ok (.bipush 40, 2) := by decide +kernel
theorem dX12_init_182 : decode cX12_init 182 = .ok (.newarray .int, 2) := by decide +kernel
theorem dX12_init_184 : decode cX12_init 184 = .ok (.putfield 77, 3) := by decide +kernel
theorem dX12_init_187 : decode cX12_init 187 = .ok (.aload_n 0, 1) := by decide +kernel
theorem dX12_init_188 : decode cX12_init 188 = .ok (.bipush 40, 2) := by decide +kernel
theorem dX12_init_190 : decode cX12_init 190 = .ok (.newarray .int, 2) := by decide +kernel
theorem dX12_init_192 : decode cX12_init 192 = .ok (.putfield 80, 3) := by decide +kernel
theorem dX12_init_195 : decode cX12_init 195 = .ok (.aload_n 0, 1) := by decide +kernel
theorem dX12_init_196 : decode cX12_init 196 = .ok (.bipush 40, 2) := by decide +kernel
theorem dX12_init_198 : decode cX12_init 198 = .ok (.newarray .int, 2) := by decide +kernel
theorem dX12_init_200 : decode cX12_init 200 = .ok (.putfield 83, 3) := by decide +kernel
theorem dX12_init_203 : decode cX12_init 203 = .ok (.aload_n 0, 1) := by decide +kernel
theorem dX12_init_204 : decode cX12_init 204 = .ok (.bipush 40, 2) := by decide +kernel
theorem dX12_init_206 : decode cX12_init 206 = .ok (.newarray .int, 2) := by decide +kernel
theorem dX12_init_208 : decode cX12_init 208 = .ok (.putfield 86, 3) := by decide +kernel
theorem dX12_init_211 : decode cX12_init 211 = .ok (.aload_n 0, 1) := by decide +kernel
theorem dX12_init_212 : decode cX12_init 212 = .ok (.bipush 40, 2) := by decide +kernel
theorem dX12_init_214 : decode cX12_init 214 = .ok (.newarray .int, 2) := by decide +kernel
theorem dX12_init_216 : decode cX12_init 216 = .ok (.putfield 89, 3) := by decide +kernel
theorem dX12_init_219 : decode cX12_init 219 = .ok (.aload_n 0, 1) := by decide +kernel
theorem dX12_init_220 : decode cX12_init 220 = .ok (.bipush 40, 2) := by decide +kernel
theorem dX12_init_222 : decode cX12_init 222 = .ok (.newarray .int, 2) := by decide +kernel
theorem dX12_init_224 : decode cX12_init 224 = .ok (.putfield 92, 3) := by decide +kernel
theorem dX12_init_227 : decode cX12_init 227 = .ok (.aload_n 0, 1) := by decide +kernel
theorem dX12_init_228 : decode cX12_init 228 = .ok (.bipush 40, 2) := by decide +kernel
theorem dX12_init_230 : decode cX12_init 230 = .ok (.newarray .int, 2) := by decide +kernel
theorem dX12_init_232 : decode cX12_init 232 = .ok (.putfield 95, 3) := by decide +kernel
theorem dX12_init_235 : decode cX12_init 235 = .ok (.aload_n 0, 1) := by decide +kernel
theorem dX12_init_236 : decode cX12_init 236 = .ok (.bipush 40, 2) := by decide +kernel
theorem dX12_init_238 : decode cX12_init 238 = .ok (.newarray .int, 2) := by decide +kernel
theorem dX12_init_240 : decode cX12_init 240 = .ok (.putfield 98, 3) := by decide +kernel
theorem dX12_init_243 : decode cX12_init 243 = .ok (.aload_n 0, 1) := by decide +kernel
theorem dX12_init_244 : decode cX12_init 244 = .ok (.sipush 1200, 3) := by decide +kernel
theorem dX12_init_247 : decode cX12_init 247 = .ok (.newarray .int, 2) := by decide +kernel
theorem dX12_init_249 : decode cX12_init 249 = .ok (.putfield 101, 3) := by decide +kernel
theorem dX12_init_252 : decode cX12_init 252 = .ok (.aload_n 0, 1) := by decide +kernel
theorem dX12_init_253 : decode cX12_init 253 = .ok (.sipush 1200, 3) := by decide +kernel
theorem dX12_init_256 : decode cX12_init 256 = .ok (.newarray .int, 2) := by decide +kernel
theorem dX12_init_258 : decode cX12_init 258 = .ok (.putfield 104, 3) := by decide +kernel
theorem dX12_init_261 : decode cX12_init 261 = .ok (.aload_n 0, 1) := by decide +kernel
theorem dX12_init_262 : decode cX12_init 262 = .ok (.sipush 1200, 3) := by decide +kernel
theorem dX12_init_265 : decode cX12_init 265 = .ok (.newarray .int, 2) := by decide +kernel
theorem dX12_init_267 : decode cX12_init 267 = .ok (.putfield 107, 3) := by decide +kernel
theorem dX12_init_270 : decode cX12_init 270 = .ok (.aload_n 0, 1) := by decide +kernel
theorem dX12_init_271 : decode cX12_init 271 = .ok (.sipush 1200, 3) := by decide +kernel
theorem dX12_init_274 : decode cX12_init 274 = .ok (.newarray .int, 2) := by decide +kernel
theorem dX12_init_276 : decode cX12_init 276 = .ok (.putfield 110, 3) := by decide +kernel
theorem dX12_init_279 : decode cX12_init 279 = .ok (.aload_n 0, 1) := by decide +kernel
theorem dX12_init_280 : decode cX12_init 280 = .ok (.bipush 6, 2) := by decide +kernel
theorem dX12_init_282 : decode cX12_init 282 = .ok (.newarray .int, 2) := by decide +kernel
theorem dX12_init_284 : decode cX12_init 284 = .ok (.putfield 113, 3) := by decide +kernel
theorem dX12_init_287 : decode cX12_init 287 = .ok (.aload_n 0, 1) := by decide +kernel
theorem dX12_init_288 : decode cX12_init 288 = .ok (.bipush 9, 2) := by decide +kernel
theorem dX12_init_290 : decode cX12_init 290 = .ok (.newarray .int, 2) := by decide +kernel
theorem dX12_init_292 : decode cX12_init 292 = .ok (.putfield 116, 3) := by decide +kernel
theorem dX12_init_295 : decode cX12_init 295 = .ok (.aload_n 0, 1) := by decide +kernel
theorem dX12_init_296 : decode cX12_init 296 = .ok (.bipush 9, 2) := by decide +kernel
theorem dX12_init_298 : decode cX12_init 298 = .ok (.newarray .int, 2) := by decide +kernel
theorem dX12_init_300 : decode cX12_init 300 = .ok (.putfield 119, 3) := by decide +kernel
theorem dX12_init_303 : decode cX12_init 303 = .ok (.aload_n 0, 1) := by decide +kernel
theorem dX12_init_304 : decode cX12_init 304 = .ok (.iconst 5, 1) := by decide +kernel
theorem dX12_init_305 : decode cX12_init 305 = .ok (.newarray .int, 2) := by decide +kernel
theorem dX12_init_307 : decode cX12_init 307 = .ok (.dup, 1) := by decide +kernel
theorem dX12_init_308 : decode cX12_init 308 = .ok (.iconst 0, 1) := by decide +kernel
theorem dX12_init_309 : decode cX12_init 309 = .ok (.iconst 3, 1) := by decide +kernel
theorem dX12_init_310 : decode cX12_init 310 = .ok (.iastore, 1) := by decide +kernel
theorem dX12_init_311 : decode cX12_init 311 = .ok (.dup, 1) := by decide +kernel
theorem dX12_init_312 : decode cX12_init 312 = .ok (.iconst 1, 1) := by decide +kernel
theorem dX12_init_313 : decode cX12_init 313 = .ok (.bipush 30, 2) := by decide +kernel
theorem dX12_init_315 : decode cX12_init 315 = .ok (.iastore, 1) := by decide +kernel
theorem dX12_init_316 : decode cX12_init 316 = .ok (.dup, 1) := by decide +kernel
theorem dX12_init_317 : decode cX12_init 317 = .ok (.iconst 2, 1) := by decide +kernel
theorem dX12_init_318 : decode cX12_init 318 = .ok (.bipush 14, 2) := by decide +kernel
theorem dX12_init_320 : decode cX12_init 320 = .ok (.iastore, 1) := by decide +kernel
theorem dX12_init_321 : decode cX12_init 321 = .ok (.dup, 1) := by decide +kernel
theorem dX12_init_322 : decode cX12_init 322 = .ok (.iconst 3, 1) := by decide +kernel
theorem dX12_init_323 : decode cX12_init 323 = .ok (.iconst 3, 1) := by decide +kernel
theorem dX12_init_324 : decode cX12_init 324 = .ok (.iastore, 1) := by decide +kernel
theorem dX12_init_325 : decode cX12_init 325 = .ok (.dup, 1) := by decide +kernel
theorem dX12_init_326 : decode cX12_init 326 = .ok (.iconst 4, 1) := by decide +kernel
theorem dX12_init_327 : decode cX12_init 327 = .ok (.iconst 3, 1) := by decide +kernel
theorem dX12_init_328 : decode cX12_init 328 = .ok (.iastore, 1) := by decide +kernel
theorem dX12_init_329 : decode cX12_init 329 = .ok (.putfield 122, 3) := by decide +kernel
theorem dX12_init_332 : decode cX12_init 332 = .ok (.aload_n 0, 1) := by decide +kernel
theorem dX12_init_333 : decode cX12_init 333 = .ok (.bipush 30, 2) := by decide +kernel
theorem dX12_init_335 : decode cX12_init 335 = .ok (.newarray .int, 2) := by decide +kernel
theorem dX12_init_337 : decode cX12_init 337 = .ok (.putfield 125, 3) := by decide +kernel
theorem dX12_init_340 : decode cX12_init 340 = .ok (.aload_n 0, 1) := by decide +kernel
theorem dX12_init_341 : decode cX12_init 341 = .ok (.bipush 30, 2) := by decide +kernel
theorem dX12_init_343 : decode cX12_init 343 = .ok (.newarray .int, 2) := by decide +kernel
theorem dX12_init_345 : decode cX12_init 345 = .ok (.putfield 128, 3) := by decide +kernel
theorem dX12_init_348 : decode cX12_init 348 = .ok (.aload_n 0, 1) := by decide +kernel
theorem dX12_init_349 : decode cX12_init 349 = .ok (.bipush 30, 2) := by decide +kernel
theorem dX12_init_351 : decode cX12_init 351 = .ok (.newarray .boolean, 2) := by decide +kernel
theorem dX12_init_353 : decode cX12_init 353 = .ok (.putfield 131, 3) := by decide +kernel
theorem dX12_init_356 : decode cX12_init 356 = .ok (.aload_n 0, 1) := by decide +kernel
theorem dX12_init_357 : decode cX12_init 357 = .ok (.bipush 30, 2) := by decide +kernel
theorem dX12_init_359 : decode cX12_init 359 = .ok (.newarray .int, 2) := by decide +kernel
theorem dX12_init_361 : decode cX12_init 361 = .ok (.putfield 134, 3) := by decide +kernel
theorem dX12_init_364 : decode cX12_init 364 = .ok (.aload_n 0, 1) := by decide +kernel
theorem dX12_init_365 : decode cX12_init 365 = .ok (.bipush 30, 2) := by decide +kernel
theorem dX12_init_367 : decode cX12_init 367 = .ok (.newarray .int, 2) := by decide +kernel
theorem dX12_init_369 : decode cX12_init 369 = .ok (.putfield 137, 3) := by decide +kernel
theorem dX12_init_372 : decode cX12_init 372 = .ok (.aload_n 0, 1) := by decide +kernel
theorem dX12_init_373 : decode cX12_init 373 = .ok (.bipush 30, 2) := by decide +kernel
theorem dX12_init_375 : decode cX12_init 375 = .ok (.newarray .int, 2) := by decide +kernel
theorem dX12_init_377 : decode cX12_init 377 = .ok (.putfield 140, 3) := by decide +kernel
theorem dX12_init_380 : decode cX12_init 380 = .ok (.aload_n 0, 1) := by decide +kernel
theorem dX12_init_381 : decode cX12_init 381 = .ok (.bipush 30, 2) := by decide +kernel
theorem dX12_init_383 : decode cX12_init 383 = .ok (.newarray .int, 2) := by decide +kernel
theorem dX12_init_385 : decode cX12_init 385 = .ok (.putfield 143, 3) := by decide +kernel
theorem dX12_init_388 : decode cX12_init 388 = .ok (.aload_n 0, 1) := by decide +kernel
theorem dX12_init_389 : decode cX12_init 389 = .ok (.bipush 30, 2) := by decide +kernel
theorem dX12_init_391 : decode cX12_init 391 = .ok (.newarray .int, 2) := by decide +kernel
theorem dX12_init_393 : decode cX12_init 393 = .ok (.putfield 146, 3) := by decide +kernel
theorem dX12_init_396 : decode cX12_init 396 = .ok (.aload_n 0, 1) := by decide +kernel
theorem dX12_init_397 : decode cX12_init 397 = .ok (.bipush 30, 2) := by decide +kernel
theorem dX12_init_399 : decode cX12_init 399 = .ok (.newarray .int, 2) := by decide +kernel
theorem dX12_init_401 : decode cX12_init 401 = .ok (.putfield 149, 3) := by decide +kernel
theorem dX12_init_404 : decode cX12_init 404 = .ok (.aload_n 0, 1) := by decide +kernel
theorem dX12_init_405 : decode cX12_init 405 = .ok (.bipush 30, 2) := by decide +kernel
theorem dX12_init_407 : decode cX12_init 407 = .ok (.newarray .boolean, 2) := by decide +kernel
theorem dX12_init_409 : decode cX12_init 409 = .ok (.putfield 152, 3) := by decide +kernel
theorem dX12_init_412 : decode cX12_init 412 = .ok (.aload_n 0, 1) := by decide +kernel
theorem dX12_init_413 : decode cX12_init 413 = .ok (.bipush 8, 2) := by decide +kernel
theorem dX12_init_415 : decode cX12_init 415 = .ok (.newarray .int, 2) := by decide +kernel
theorem dX12_init_417 : decode cX12_init 417 = .ok (.putfield 155, 3) := by decide +kernel
theorem dX12_init_420 : decode cX12_init 420 = .ok (.aload_n 0, 1) := by decide +kernel
theorem dX12_init_421 : decode cX12_init 421 = .ok (.bipush 8, 2) := by decide +kernel
theorem dX12_init_423 : decode cX12_init 423 = .ok (.newarray .int, 2) := by decide +kernel
theorem dX12_init_425 : decode cX12_init 425 = .ok (.putfield 158, 3) := by decide +kernel
theorem dX12_init_428 : decode cX12_init 428 = .ok (.aload_n 0, 1) := by decide +kernel
theorem dX12_init_429 : decode cX12_init 429 = .ok (.bipush 8, 2) := by decide +kernel
theorem dX12_init_431 : decode cX12_init 431 = .ok (.newarray .boolean, 2) := by decide +kernel
theorem dX12_init_433 : decode cX12_init 433 = .ok (.putfield 161, 3) := by decide +kernel
theorem dX12_init_436 : decode cX12_init 436 = .ok (.aload_n 0, 1) := by decide +kernel
theorem dX12_init_437 : decode cX12_init 437 = .ok (.bipush 60, 2) := by decide +kernel
theorem dX12_init_439 : decode cX12_init 439 = .ok (.newarray .int, 2) := by decide +kernel
theorem dX12_init_441 : decode cX12_init 441 = .ok (.putfield 164, 3) := by decide +kernel
theorem dX12_init_444 : decode cX12_init 444 = .ok (.aload_n 0, 1) := by decide +kernel
theorem dX12_init_445 : decode cX12_init 445 = .ok (.bipush 60, 2) := by decide +kernel
theorem dX12_init_447 : decode cX12_init 447 = .ok (.newarray .int, 2) := by decide +kernel
theorem dX12_init_449 : decode cX12_init 449 = .ok (.putfield 167, 3) := by decide +kernel
theorem dX12_init_452 : decode cX12_init 452 = .ok (.aload_n 0, 1) := by decide +kernel
theorem dX12_init_453 : decode cX12_init 453 = .ok (.bipush 60, 2) := by decide +kernel
theorem dX12_init_455 : decode cX12_init 455 = .ok (.newarray .int, 2) := by decide +kernel
theorem dX12_init_457 : decode cX12_init 457 = .ok (.putfield 170, 3) := by decide +kernel
theorem dX12_init_460 : decode cX12_init 460 = .ok (.aload_n 0, 1) := by decide +kernel
theorem dX12_init_461 : decode cX12_init 461 = .ok (.bipush 60, 2) := by decide +kernel
theorem dX12_init_463 : decode cX12_init 463 = .ok (.newarray .int, 2) := by decide +kernel
theorem dX12_init_465 : decode cX12_init 465 = .ok (.putfield 173, 3) := by decide +kernel
theorem dX12_init_468 : decode cX12_init 468 = .ok (.aload_n 0, 1) := by decide +kernel
theorem dX12_init_469 : decode cX12_init 469 = .ok (.bipush 60, 2) := by decide +kernel
theorem dX12_init_471 : decode cX12_init 471 = .ok (.newarray .int, 2) := by decide +kernel
theorem dX12_init_473 : decode cX12_init 473 = .ok (.putfield 176, 3) := by decide +kernel
theorem dX12_init_476 : decode cX12_init 476 = .ok (.aload_n 0, 1) := by decide +kernel
theorem dX12_init_477 : decode cX12_init 477 = .ok (.bipush 100, 2) := by decide +kernel
theorem dX12_init_479 : decode cX12_init 479 = .ok (.newarray .int, 2) := by decide +kernel
theorem dX12_init_481 : decode cX12_init 481 = .ok (.putfield 179, 3) := by decide +kernel
theorem dX12_init_484 : decode cX12_init 484 = .ok (.aload_n 0, 1) := by decide +kernel
theorem dX12_init_485 : decode cX12_init 485 = .ok (.bipush 100, 2) := by decide +kernel
theorem dX12_init_487 : decode cX12_init 487 = .ok (.newarray .int, 2) := by decide +kernel
theorem dX12_init_489 : decode cX12_init 489 = .ok (.putfield 182, 3) := by decide +kernel
theorem dX12_init_492 : decode cX12_init 492 = .ok (.aload_n 0, 1) := by decide +kernel
theorem dX12_init_493 : decode cX12_init 493 = .ok (.bipush 100, 2) := by decide +kernel
theorem dX12_init_495 : decode cX12_init 495 = .ok (.newarray .int, 2) := by decide +kernel
theorem dX12_init_497 : decode cX12_init 497 = .ok (.putfield 185, 3) := by decide +kernel
theorem dX12_init_500 : decode cX12_init 500 = .ok (.aload_n 0, 1) := by decide +kernel
theorem dX12_init_501 : decode cX12_init 501 = .ok (.iconst 3, 1) := by decide +kernel
theorem dX12_init_502 : decode cX12_init 502 = .ok (.newarray .int, 2) := by decide +kernel
theorem dX12_init_504 : decode cX12_init 504 = .ok (.dup, 1) := by decide +kernel
theorem dX12_init_505 : decode cX12_init 505 = .ok (.iconst 0, 1) := by decide +kernel
theorem dX12_init_506 : decode cX12_init 506 = .ok (.iconst 1, 1) := by decide +kernel
theorem dX12_init_507 : decode cX12_init 507 = .ok (.iastore, 1) := by decide +kernel
theorem dX12_init_508 : decode cX12_init 508 = .ok (.dup, 1) := by decide +kernel
theorem dX12_init_509 : decode cX12_init 509 = .ok (.iconst 1, 1) := by decide +kernel
theorem dX12_init_510 : decode cX12_init 510 = .ok (.iconst 1, 1) := by decide +kernel
theorem dX12_init_511 : decode cX12_init 511 = .ok (.iastore, 1) := by decide +kernel
theorem dX12_init_512 : decode cX12_init 512 = .ok (.dup, 1) := by decide +kernel
theorem dX12_init_513 : decode cX12_init 513 = .ok (.iconst 2, 1) := by decide +kernel
theorem dX12_init_514 : decode cX12_init 514 = .ok (.iconst 1, 1) := by decide +kernel
theorem dX12_init_515 : decode cX12_init 515 = .ok (.iastore, 1) := by decide +kernel
theorem dX12_init_516 : decode cX12_init 516 = .ok (.putfield 188, 3) := by decide +kernel
theorem dX12_init_519 : decode cX12_init 519 = .ok (.aload_n 0, 1) := by decide +kernel
theorem dX12_init_520 : decode cX12_init 520 = .ok (.sipush 288, 3) := by decide +kernel
theorem dX12_init_523 : decode cX12_init 523 = .ok (.newarray .boolean, 2) := by decide +kernel
theorem dX12_init_525 : decode cX12_init 525 = .ok (.putfield 191, 3) := by decide +kernel
theorem dX12_init_528 : decode cX12_init 528 = .ok (.aload_n 0, 1) := by decide +kernel
theorem dX12_init_529 : decode cX12_init 529 = .ok (.iconst 4, 1) := by decide +kernel
theorem dX12_init_530 : decode cX12_init 530 = .ok (.newarray .int, 2) := by decide +kernel
theorem dX12_init_532 : decode cX12_init 532 = .ok (.putfield 194, 3) := by decide +kernel
theorem dX12_init_535 : decode cX12_init 535 = .ok (.aload_n 0, 1) := by decide +kernel
theorem dX12_init_536 : decode cX12_init 536 = .ok (.iconst 4, 1) := by decide +kernel
theorem dX12_init_537 : decode cX12_init 537 = .ok (.newarray .int, 2) := by decide +kernel
theorem dX12_init_539 : decode cX12_init 539 = .ok (.putfield 197, 3) := by decide +kernel
theorem dX12_init_542 : decode cX12_init 542 = .ok (.aload_n 0, 1) := by decide +kernel
theorem dX12_init_543 : decode cX12_init 543 = .ok (.iconst 5, 1) := by decide +kernel
theorem dX12_init_544 : decode cX12_init 544 = .ok (.newarray .int, 2) := by decide +kernel
theorem dX12_init_546 : decode cX12_init 546 = .ok (.putfield 200, 3) := by decide +kernel
theorem dX12_init_549 : decode cX12_init 549 = .ok (.aload_n 0, 1) := by decide +kernel
theorem dX12_init_550 : decode cX12_init 550 = .ok (.iconst 4, 1) := by decide +kernel
theorem dX12_init_551 : decode cX12_init 551 = .ok (.newarray .int, 2) := by decide +kernel
theorem dX12_init_553 : decode cX12_init 553 = .ok (.putfield 203, 3) := by decide +kernel
theorem dX12_init_556 : decode cX12_init 556 = .ok (.aload_n 0, 1) := by decide +kernel
theorem dX12_init_557 : decode cX12_init 557 = .ok (.sipush 256, 3) := by decide +kernel
theorem dX12_init_560 : decode cX12_init 560 = .ok (.newarray .int, 2) := by decide +kernel
theorem dX12_init_562 : decode cX12_init 562 = .ok (.putfield 206, 3) := by decide +kernel
theorem dX12_init_565 : decode cX12_init 565 = .ok (.aload_n 0, 1) := by decide +kernel
theorem dX12_init_566 : decode cX12_init 566 = .ok (.sipush 256, 3) := by decide +kernel
theorem dX12_init_569 : decode cX12_init 569 = .ok (.newarray .int, 2) := by decide +kernel
theorem dX12_init_571 : decode cX12_init 571 = .ok (.putfield 209, 3) := by decide +kernel
theorem dX12_init_574 : decode cX12_init 574 = .ok (.aload_n 0, 1) := by decide +kernel
theorem dX12_init_575 : decode cX12_init 575 = .ok (.iconst 4, 1) := by decide +kernel
theorem dX12_init_576 : decode cX12_init 576 = .ok (.newarray .int, 2) := by decide +kernel
theorem dX12_init_578 : decode cX12_init 578 = .ok (.putfield 212, 3) := by decide +kernel
theorem dX12_init_581 : decode cX12_init 581 = .ok (.aload_n 0, 1) := by decide +kernel
theorem dX12_init_582 : decode cX12_init 582 = .ok (.iconst 5, 1) := by decide +kernel
theorem dX12_init_583 : decode cX12_init 583 = .ok (.newarray .int, 2) := by decide +kernel
theorem dX12_init_585 : decode cX12_init 585 = .ok (.putfield 215, 3) := by decide +kernel
theorem dX12_init_588 : decode cX12_init 588 = .ok (.aload_n 0, 1) := by decide +kernel
theorem dX12_init_589 : decode cX12_init 589 = .ok (.iconst (-1), 1) := by decide +kernel
theorem dX12_init_590 : decode cX12_init 590 = .ok (.putfield 218, 3) := by decide +kernel
theorem dX12_init_593 : decode cX12_init 593 = .ok (.aload_n 0, 1) := by decide +kernel
theorem dX12_init_594 : decode cX12_init 594 = .ok (.iconst 5, 1) := by decide +kernel
theorem dX12_init_595 : decode cX12_init 595 = .ok (.newarray .int, 2) := by decide +kernel
theorem dX12_init_597 : decode cX12_init 597 = .ok (.putfield 222, 3) := by decide +kernel
theorem dX12_init_600 : decode cX12_init 600 = .ok (.aload_n 0, 1) := by decide +kernel
theorem dX12_init_601 : decode cX12_init 601 = .ok (.bipush 60, 2) := by decide +kernel
theorem dX12_init_603 : decode cX12_init 603 = .ok (.newarray .int, 2) := by decide +kernel
theorem dX12_init_605 : decode cX12_init 605 = .ok (.putfield 225, 3) := by decide +kernel
theorem dX12_init_608 : decode cX12_init 608 = .ok (.aload_n 0, 1) := by decide +kernel
theorem dX12_init_609 : decode cX12_init 609 = .ok (.bipush 60, 2) := by decide +kernel
theorem dX12_init_611 : decode cX12_init 611 = .ok (.newarray .int, 2) := by decide +kernel
theorem dX12_init_613 : decode cX12_init 613 = .ok (.putfield 228, 3) := by decide +kernel
theorem dX12_init_616 : decode cX12_init 616 = .ok (.aload_n 0, 1) := by decide +kernel
theorem dX12_init_617 : decode cX12_init 617 = .ok (.iconst 4, 1) := by decide +kernel
theorem dX12_init_618 : decode cX12_init 618 = .ok (.newarray .int, 2) := by decide +kernel
theorem dX12_init_620 : decode cX12_init 620 = .ok (.dup, 1) := by decide +kernel
theorem dX12_init_621 : decode cX12_init 621 = .ok (.iconst 0, 1) := by decide +kernel
theorem dX12_init_622 : decode cX12_init 622 = .ok (.iconst 1, 1) := by decide +kernel
theorem dX12_init_623 : decode cX12_init 623 = .ok (.iastore, 1) := by decide +kernel
theorem dX12_init_624 : decode cX12_init 624 = .ok (.dup, 1) := by decide +kernel
theorem dX12_init_625 : decode cX12_init 625 = .ok (.iconst 1, 1) := by decide +kernel
theorem dX12_init_626 : decode cX12_init 626 = .ok (.iconst 1, 1) := by decide +kernel
theorem dX12_init_627 : decode cX12_init 627 = .ok (.iastore, 1) := by decide +kernel
theorem dX12_init_628 : decode cX12_init 628 = .ok (.dup, 1) := by decide +kernel
theorem dX12_init_629 : decode cX12_init 629 = .ok (.iconst 2, 1) := by decide +kernel
theorem dX12_init_630 : decode cX12_init 630 = .ok (.iconst 1, 1) := by decide +kernel
theorem dX12_init_631 : decode cX12_init 631 = .ok (.iastore, 1) := by decide +kernel
theorem dX12_init_632 : decode cX12_init 632 = .ok (.dup, 1) := by decide +kernel
theorem dX12_init_633 : decode cX12_init 633 = .ok (.iconst 3, 1) := by decide +kernel
theorem dX12_init_634 : decode cX12_init 634 = .ok (.iconst 1, 1) := by decide +kernel
theorem dX12_init_635 : decode cX12_init 635 = .ok (.iastore, 1) := by decide +kernel
theorem dX12_init_636 : decode cX12_init 636 = .ok (.putfield 231, 3) := by decide +kernel
theorem dX12_init_639 : decode cX12_init 639 = .ok (.aload_n 0, 1) := by decide +kernel
theorem dX12_init_640 : decode cX12_init 640 = .ok (.iconst (-1), 1) := by decide +kernel
theorem dX12_init_641 : decode cX12_init 641 = .ok (.putfield 234, 3) := by decide +kernel
theorem dX12_init_644 : decode cX12_init 644 = .ok (.aload_n 0, 1) := by decide +kernel
theorem dX12_init_645 : decode cX12_init 645 = .ok (.bipush 7, 2) := by decide +kernel
theorem dX12_init_647 : decode cX12_init 647 = .ok (.newarray .int, 2) := by decide +kernel
theorem dX12_init_649 : decode cX12_init 649 = .ok (.putfield 237, 3) := by decide +kernel
theorem dX12_init_652 : decode cX12_init 652 = .ok (.aload_n 0, 1) := by decide +kernel
theorem dX12_init_653 : decode cX12_init 653 = .ok (.bipush 7, 2) := by decide +kernel
theorem dX12_init_655 : decode cX12_init 655 = .ok (.newarray .int, 2) := by decide +kernel
theorem dX12_init_657 : decode cX12_init 657 = .ok (.putfield 240, 3) := by decide +kernel
theorem dX12_init_660 : decode cX12_init 660 = .ok (.aload_n 0, 1) := by decide +kernel
theorem dX12_init_661 : decode cX12_init 661 = .ok (.bipush 7, 2) := by decide +kernel
theorem dX12_init_663 : decode cX12_init 663 = .ok (.newarray .int, 2) := by decide +kernel
theorem dX12_init_665 : decode cX12_init 665 = .ok (.putfield 243, 3) := by decide +kernel
theorem dX12_init_668 : decode cX12_init 668 = .ok (.aload_n 0, 1) := by decide +kernel
theorem dX12_init_669 : decode cX12_init 669 = .ok (.bipush 7, 2) := by decide +kernel
theorem dX12_init_671 : decode cX12_init 671 = .ok (.newarray .int, 2) := by decide +kernel
theorem dX12_init_673 : decode cX12_init 673 = .ok (.putfield 246, 3) := by decide +kernel
theorem dX12_init_676 : decode cX12_init 676 = .ok (.aload_n 0, 1) := by decide +kernel
theorem dX12_init_677 : decode cX12_init 677 = .ok (.bipush 7, 2) := by decide +kernel
theorem dX12_init_679 : decode cX12_init 679 = .ok (.newarray .int, 2) := by decide +kernel
theorem dX12_init_681 : decode cX12_init 681 = .ok (.putfield 249, 3) := by decide +kernel
theorem dX12_init_684 : decode cX12_init 684 = .ok (.aload_n 0, 1) := by decide +kernel
theorem dX12_init_685 : decode cX12_init 685 = .ok (.bipush 8, 2) := by decide +kernel
theorem dX12_init_687 : decode cX12_init 687 = .ok (.newarray .int, 2) := by decide +kernel
theorem dX12_init_689 : decode cX12_init 689 = .ok (.putfield 252, 3) := by decide +kernel
theorem dX12_init_692 : decode cX12_init 692 = .ok (.aload_n 0, 1) := by decide +kernel
theorem dX12_init_693 : decode cX12_init 693 = .ok (.bipush 7, 2) := by decide +kernel
theorem dX12_init_695 : decode cX12_init 695 = .ok (.newarray .int, 2) := by decide +kernel
theorem dX12_init_697 : decode cX12_init 697 = .ok (.putfield 255, 3) := by decide +kernel
theorem dX12_init_700 : decode cX12_init 700 = .ok (.aload_n 0, 1) := by decide +kernel
theorem dX12_init_701 : decode cX12_init 701 = .ok (.bipush 40, 2) := by decide +kernel
theorem dX12_init_703 : decode cX12_init 703 = .ok (.newarray .int, 2) := by decide +kernel
theorem dX12_init_705 : decode cX12_init 705 = .ok (.putfield 258, 3) := by decide +kernel
theorem dX12_init_708 : decode cX12_init 708 = .ok (.iconst 0, 1) := by decide +kernel
theorem dX12_init_709 : decode cX12_init 709 = .ok (.istore_n 1, 1) := by decide +kernel
theorem dX12_init_710 : decode cX12_init 710 = .ok (.iload_n 1, 1) := by decide +kernel
theorem dX12_init_711 : decode cX12_init 711 = .ok (.iconst 5, 1) := by decide +kernel
theorem dX12_init_712 : decode cX12_init 712 = .ok (.if_icmp .ge 37, 3) := by decide +kernel
theorem dX12_init_715 : decode cX12_init 715 = .ok (.aload_n 0, 1) := by decide +kernel
theorem dX12_init_716 : decode cX12_init 716 = .ok (.getfield 65, 3) := by decide +kernel
theorem dX12_init_719 : decode cX12_init 719 = .ok (.iload_n 1, 1) := by decide +kernel
theorem dX12_init_720 : decode cX12_init 720 = .ok (.iconst 5, 1) := by decide +kernel
theorem dX12_init_721 : decode cX12_init 721 = .ok (.iastore, 1) := by decide +kernel
theorem dX12_init_722 : decode cX12_init 722 = .ok (.aload_n 0, 1) := by decide +kernel
theorem dX12_init_723 : decode cX12_init 723 = .ok (.getfield 68, 3) := by decide +kernel
theorem dX12_init_726 : decode cX12_init 726 = .ok (.iload_n 1, 1) := by decide +kernel
theorem dX12_init_727 : decode cX12_init 727 = .ok (.iload_n 1, 1) := by decide +kernel
theorem dX12_init_728 : decode cX12_init 728 = .ok (.iconst 1, 1) := by decide +kernel
theorem dX12_init_729 : decode cX12_init 729 = .ok (.if_icmp .eq 8, 3) := by decide +kernel
theorem dX12_init_732 : decode cX12_init 732 = .ok (.iload_n 1, 1) := by decide +kernel
theorem dX12_init_733 : decode cX12_init 733 = .ok (.iconst 2, 1) := by decide +kernel
theorem dX12_init_734 : decode cX12_init 734 = .ok (.if_icmp .ne 7, 3) := by decide +kernel
theorem dX12_init_737 : decode cX12_init 737 = .ok (.iconst 1, 1) := by decide +kernel
theorem dX12_init_738 : decode cX12_init 738 = .ok (.goto 4, 3) := by decide +kernel
theorem dX12_init_741 : decode cX12_init 741 = .ok (.iconst 0, 1) := by decide +kernel
theorem dX12_init_742 : decode cX12_init 742 = .ok (.iastore, 1) := by decide +kernel
theorem dX12_init_743 : decode cX12_init 743 = .ok (.iinc 1 1, 3) := by decide +kernel
theorem dX12_init_746 : decode cX12_init 746 = .ok (.goto (-36), 3) := by decide +kernel
theorem dX12_init_749 : decode cX12_init 749 = .ok (.iconst 0, 1) := by decide +kernel
theorem dX12_init_750 : decode cX12_init 750 = .ok (.istore_n 1, 1) := by decide +kernel
theorem dX12_init_751 : decode cX12_init 751 = .ok (.iload_n 1, 1) := by decide +kernel
theorem dX12_init_752 : decode cX12_init 752 = .ok (.bipush 8, 2) := by decide +kernel
theorem dX12_init_754 : decode cX12_init 754 = .ok (.if_icmp .ge 16, 3) := by decide +kernel
theorem dX12_init_757 : decode cX12_init 757 = .ok (.aload_n 0, 1) := by decide +kernel
theorem dX12_init_758 : decode cX12_init 758 = .ok (.getfield 155, 3) := by decide +kernel
theorem dX12_init_761 : decode cX12_init 761 = .ok (.iload_n 1, 1) := by decide +kernel
theorem dX12_init_762 : decode cX12_init 762 = .ok (.iconst (-1), 1) := by decide +kernel
theorem dX12_init_763 : decode cX12_init 763 = .ok (.iastore, 1) := by decide +kernel
theorem dX12_init_764 : decode cX12_init 764 = .ok (.iinc 1 1, 3) := by decide +kernel
theorem dX12_init_767 : decode cX12_init 767 = .ok (.goto (-16), 3) := by decide +kernel
theorem dX12_init_770 : decode cX12_init 770 = .ok (.return_, 1) := by decide +kernel
theorem dX12_in_0 : decode cX12_in 0 = .ok (.iload_n 0, 1) := by decide +kernel
theorem dX12_in_1 : decode cX12_in 1 = .ok (.iload_n 1, 1) := by decide +kernel
theorem dX12_in_2 : decode cX12_in 2 = .ok (.if_icmp .lt 12, 3) := by decide +kernel
theorem dX12_in_5 : decode cX12_in 5 = .ok (.iload_n 0, 1) := by decide +kernel
theorem dX12_in_6 : decode cX12_in 6 = .ok (.iload_n 2, 1) := by decide +kernel
theorem dX12_in_7 : decode cX12_in 7 = .ok (.if_icmp .gt 7, 3) := by decide +kernel
theorem dX12_in_10 : decode cX12_in 10 = .ok (.iconst 1, 1) := by decide +kernel
theorem dX12_in_11 : decode cX12_in 11 = .ok (.goto 4, 3) := by decide +kernel
theorem dX12_in_14 : decode cX12_in 14 = .ok (.iconst 0, 1) := by decide +kernel
theorem dX12_in_15 : decode cX12_in 15 = .ok (.ireturn, 1) := by decide +kernel
theorem dX12_refuse_0 : decode cX12_refuse 0 = .ok (.aload_n 0, 1) := by decide +kernel
theorem dX12_refuse_1 : decode cX12_refuse 1 = .ok (.getfield 32, 3) := by decide +kernel
theorem dX12_refuse_4 : decode cX12_refuse 4 = .ok (.iload_n 1, 1) := by decide +kernel
theorem dX12_refuse_5 : decode cX12_refuse 5 = .ok (.ineg, 1) := by decide +kernel
theorem dX12_refuse_6 : decode cX12_refuse 6 = .ok (.dup2, 1) := by decide +kernel
theorem dX12_refuse_7 : decode cX12_refuse 7 = .ok (.iaload, 1) := by decide +kernel
theorem dX12_refuse_8 : decode cX12_refuse 8 = .ok (.iconst 1, 1) := by decide +kernel
theorem dX12_refuse_9 : decode cX12_refuse 9 = .ok (.iadd, 1) := by decide +kernel
theorem dX12_refuse_10 : decode cX12_refuse 10 = .ok (.iastore, 1) := by decide +kernel
theorem dX12_refuse_11 : decode cX12_refuse 11 = .ok (.iload_n 1, 1) := by decide +kernel
theorem dX12_refuse_12 : decode cX12_refuse 12 = .ok (.ireturn, 1) := by decide +kernel
theorem dX12_refuseFar_0 : decode cX12_refuseFar 0 = .ok (.aload_n 0, 1) := by decide +kernel
theorem dX12_refuseFar_1 : decode cX12_refuseFar 1 = .ok (.getfield 32, 3) := by decide +kernel
theorem dX12_refuseFar_4 : decode cX12_refuseFar 4 = .ok (.iload_n 1, 1) := by decide +kernel
theorem dX12_refuseFar_5 : decode cX12_refuseFar 5 = .ok (.ineg, 1) := by decide +kernel
theorem dX12_refuseFar_6 : decode cX12_refuseFar 6 = .ok (.dup2, 1) := by decide +kernel
theorem dX12_refuseFar_7 : decode cX12_refuseFar 7 = .ok (.iaload, 1) := by decide +kernel
theorem dX12_refuseFar_8 : decode cX12_refuseFar 8 = .ok (.iconst 1, 1) := by decide +kernel
theorem dX12_refuseFar_9 : decode cX12_refuseFar 9 = .ok (.iadd, 1) := by decide +kernel
theorem dX12_refuseFar_10 : decode cX12_refuseFar 10 = .ok (.iastore, 1) := by decide +kernel
theorem dX12_refuseFar_11 : decode cX12_refuseFar 11 = .ok (.ldc_w 261, 3) := by decide +kernel
theorem dX12_refuseFar_14 : decode cX12_refuseFar 14 = .ok (.iload_n 1, 1) := by decide +kernel
theorem dX12_refuseFar_15 : decode cX12_refuseFar 15 = .ok (.isub, 1) := by decide +kernel
theorem dX12_refuseFar_16 : decode cX12_refuseFar 16 = .ok (.ireturn, 1) := by decide +kernel
theorem dX12_ones_0 : decode cX12_ones 0 = .ok (.iconst 0, 1) := by decide +kernel
theorem dX12_ones_1 : decode cX12_ones 1 = .ok (.istore_n 1, 1) := by decide +kernel
theorem dX12_ones_2 : decode cX12_ones 2 = .ok (.iload_n 0, 1) := by decide +kernel
theorem dX12_ones_3 : decode cX12_ones 3 = .ok (.istore_n 2, 1) := by decide +kernel
theorem dX12_ones_4 : decode cX12_ones 4 = .ok (.iload_n 2, 1) := by decide +kernel
theorem dX12_ones_5 : decode cX12_ones 5 = .ok (.ifCond .le 16, 3) := by decide +kernel
theorem dX12_ones_8 : decode cX12_ones 8 = .ok (.iload_n 1, 1) := by decide +kernel
theorem dX12_ones_9 : decode cX12_ones 9 = .ok (.iload_n 2, 1) := by decide +kernel
theorem dX12_ones_10 : decode cX12_ones 10 = .ok (.iconst 2, 1) := by decide +kernel
theorem dX12_ones_11 : decode cX12_ones 11 = .ok (.irem, 1) := by decide +kernel
theorem dX12_ones_12 : decode cX12_ones 12 = .ok (.iadd, 1) := by decide +kernel
theorem dX12_ones_13 : decode cX12_ones 13 = .ok (.istore_n 1, 1) := by decide +kernel
theorem dX12_ones_14 : decode cX12_ones 14 = .ok (.iload_n 2, 1) := by decide +kernel
theorem dX12_ones_15 : decode cX12_ones 15 = .ok (.iconst 2, 1) := by decide +kernel
theorem dX12_ones_16 : decode cX12_ones 16 = .ok (.idiv, 1) := by decide +kernel
theorem dX12_ones_17 : decode cX12_ones 17 = .ok (.istore_n 2, 1) := by decide +kernel
theorem dX12_ones_18 : decode cX12_ones 18 = .ok (.goto (-14), 3) := by decide +kernel
theorem dX12_ones_21 : decode cX12_ones 21 = .ok (.iload_n 1, 1) := by decide +kernel
theorem dX12_ones_22 : decode cX12_ones 22 = .ok (.ireturn, 1) := by decide +kernel
theorem dX12_isShop_0 : decode cX12_isShop 0 = .ok (.iload_n 0, 1) := by decide +kernel
theorem dX12_isShop_1 : decode cX12_isShop 1 = .ok (.iconst 0, 1) := by decide +kernel
theorem dX12_isShop_2 : decode cX12_isShop 2 = .ok (.iconst 5, 1) := by decide +kernel
theorem dX12_isShop_3 : decode cX12_isShop 3 = .ok (.invokestatic 262, 3) := by decide +kernel
theorem dX12_isShop_6 : decode cX12_isShop 6 = .ok (.ireturn, 1) := by decide +kernel
theorem dX12_isWhat_0 : decode cX12_isWhat 0 = .ok (.iload_n 0, 1) := by decide +kernel
theorem dX12_isWhat_1 : decode cX12_isWhat 1 = .ok (.iconst 0, 1) := by decide +kernel
theorem dX12_isWhat_2 : decode cX12_isWhat 2 = .ok (.bipush 7, 2) := by decide +kernel
theorem dX12_isWhat_4 : decode cX12_isWhat 4 = .ok (.invokestatic 262, 3) := by decide +kernel
theorem dX12_isWhat_7 : decode cX12_isWhat 7 = .ok (.ireturn, 1) := by decide +kernel
theorem dX12_isPerson_0 : decode cX12_isPerson 0 = .ok (.iload_n 1, 1) := by decide +kernel
theorem dX12_isPerson_1 : decode cX12_isPerson 1 = .ok (.iconst 0, 1) := by decide +kernel
theorem dX12_isPerson_2 : decode cX12_isPerson 2 = .ok (.aload_n 0, 1) := by decide +kernel
theorem dX12_isPerson_3 : decode cX12_isPerson 3 = .ok (.getfield 266, 3) := by decide +kernel
theorem dX12_isPerson_6 : decode cX12_isPerson 6 = .ok (.iconst 1, 1) := by decide +kernel
theorem dX12_isPerson_7 : decode cX12_isPerson 7 = .ok (.isub, 1) := by decide +kernel
theorem dX12_isPerson_8 : decode cX12_isPerson 8 = .ok (.invokestatic 262, 3) := by decide +kernel
theorem dX12_isPerson_11 : decode cX12_isPerson 11 = .ok (.ireturn, 1) := by decide +kernel
theorem dX12_days_0 : decode cX12_days 0 = .ok (.iload_n 1, 1) := by decide +kernel
theorem dX12_days_1 : decode cX12_days 1 = .ok (.iconst 1, 1) := by decide +kernel
theorem dX12_days_2 : decode cX12_days 2 = .ok (.if_icmp .ge 10, 3) := by decide +kernel
theorem dX12_days_5 : decode cX12_days 5 = .ok (.aload_n 0, 1) := by decide +kernel
theorem dX12_days_6 : decode cX12_days 6 = .ok (.bipush (-4), 2) := by decide +kernel
theorem dX12_days_8 : decode cX12_days 8 = .ok (.invokevirtual 269, 3) := by decide +kernel
theorem dX12_days_11 : decode cX12_days 11 = .ok (.ireturn, 1) := by decide +kernel
theorem dX12_days_12 : decode cX12_days 12 = .ok (.iload_n 1, 1) := by decide +kernel
theorem dX12_days_13 : decode cX12_days 13 = .ok (.sipush 1000, 3) := by decide +kernel
theorem dX12_days_16 : decode cX12_days 16 = .ok (.aload_n 0, 1) := by decide +kernel
theorem dX12_days_17 : decode cX12_days 17 = .ok (.getfield 273, 3) := by decide +kernel
theorem dX12_days_20 : decode cX12_days 20 = .ok (.isub, 1) := by decide +kernel
theorem dX12_days_21 : decode cX12_days 21 = .ok (.if_icmp .le 10, 3) := by decide +kernel
theorem dX12_days_24 : decode cX12_days 24 = .ok (.aload_n 0, 1) := by decide +kernel
theorem dX12_days_25 : decode cX12_days 25 = .ok (.bipush (-6), 2) := by decide +kernel
theorem dX12_days_27 : decode cX12_days 27 = .ok (.invokevirtual 269, 3) := by decide +kernel
theorem dX12_days_30 : decode cX12_days 30 = .ok (.ireturn, 1) := by decide +kernel
theorem dX12_days_31 : decode cX12_days 31 = .ok (.aload_n 0, 1) := by decide +kernel
theorem dX12_days_32 : decode cX12_days 32 = .ok (.dup, 1) := by decide +kernel
theorem dX12_days_33 : decode cX12_days 33 = .ok (.getfield 273, 3) := by decide +kernel
theorem dX12_days_36 : decode cX12_days 36 = .ok (.iload_n 1, 1) := by decide +kernel
theorem dX12_days_37 : decode cX12_days 37 = .ok (.iadd, 1) := by decide +kernel
theorem dX12_days_38 : decode cX12_days 38 = .ok (.putfield 273, 3) := by decide +kernel
theorem dX12_days_41 : decode cX12_days 41 = .ok (.aload_n 0, 1) := by decide +kernel
theorem dX12_days_42 : decode cX12_days 42 = .ok (.getfield 273, 3) := by decide +kernel
theorem dX12_days_45 : decode cX12_days 45 = .ok (.ireturn, 1) := by decide +kernel
theorem dX12_feast_0 : decode cX12_feast 0 = .ok (.iload_n 1, 1) := by decide +kernel
theorem dX12_feast_1 : decode cX12_feast 1 = .ok (.ifCond .ge 10, 3) := by decide +kernel
theorem dX12_feast_4 : decode cX12_feast 4 = .ok (.aload_n 0, 1) := by decide +kernel
theorem dX12_feast_5 : decode cX12_feast 5 = .ok (.bipush (-4), 2) := by decide +kernel
theorem dX12_feast_7 : decode cX12_feast 7 = .ok (.invokevirtual 269, 3) := by decide +kernel
theorem dX12_feast_10 : decode cX12_feast 10 = .ok (.ireturn, 1) := by decide +kernel
theorem dX12_feast_11 : decode cX12_feast 11 = .ok (.iload_n 1, 1) := by decide +kernel
theorem dX12_feast_12 : decode cX12_feast 12 = .ok (.sipush 1000, 3) := by decide +kernel
theorem dX12_feast_15 : decode cX12_feast 15 = .ok (.if_icmp .le 10, 3) := by decide +kernel
theorem dX12_feast_18 : decode cX12_feast 18 = .ok (.aload_n 0, 1) := by decide +kernel
theorem dX12_feast_19 : decode cX12_feast 19 = .ok (.bipush (-6), 2) := by decide +kernel
theorem dX12_feast_21 : decode cX12_feast 21 = .ok (.invokevirtual 269, 3) := by decide +kernel
theorem dX12_feast_24 : decode cX12_feast 24 = .ok (.ireturn, 1) := by decide +kernel
theorem dX12_feast_25 : decode cX12_feast 25 = .ok (.aload_n 0, 1) := by decide +kernel
theorem dX12_feast_26 : decode cX12_feast 26 = .ok (.getfield 7, 3) := by decide +kernel
theorem dX12_feast_29 : decode cX12_feast 29 = .ok (.iload_n 1, 1) := by decide +kernel
theorem dX12_feast_30 : decode cX12_feast 30 = .ok (.baload, 1) := by decide +kernel
theorem dX12_feast_31 : decode cX12_feast 31 = .ok (.istore_n 2, 1) := by decide +kernel
theorem dX12_feast_32 : decode cX12_feast 32 = .ok (.aload_n 0, 1) := by decide +kernel
theorem dX12_feast_33 : decode cX12_feast 33 = .ok (.getfield 7, 3) := by decide +kernel
theorem dX12_feast_36 : decode cX12_feast 36 = .ok (.iload_n 1, 1) := by decide +kernel
theorem dX12_feast_37 : decode cX12_feast 37 = .ok (.iconst 1, 1) := by decide +kernel
theorem dX12_feast_38 : decode cX12_feast 38 = .ok (.bastore, 1) := by decide +kernel
theorem dX12_feast_39 : decode cX12_feast 39 = .ok (.iload_n 2, 1) := by decide +kernel
theorem dX12_feast_40 : decode cX12_feast 40 = .ok (.ifCond .eq 7, 3) := by decide +kernel
theorem dX12_feast_43 : decode cX12_feast 43 = .ok (.iconst 0, 1) := by decide +kernel
theorem dX12_feast_44 : decode cX12_feast 44 = .ok (.goto 4, 3) := by decide +kernel
theorem dX12_feast_47 : decode cX12_feast 47 = .ok (.iconst 1, 1) := by decide +kernel
theorem dX12_feast_48 : decode cX12_feast 48 = .ok (.ireturn, 1) := by decide +kernel
theorem dX12_workdaysIn_0 : decode cX12_workdaysIn 0 = .ok (.iconst 0, 1) := by decide +kernel
theorem dX12_workdaysIn_1 : decode cX12_workdaysIn 1 = .ok (.istore_n 3, 1) := by decide +kernel
theorem dX12_workdaysIn_2 : decode cX12_workdaysIn 2 = .ok (.iload_n 1, 1) := by decide +kernel
theorem dX12_workdaysIn_3 : decode cX12_workdaysIn 3 = .ok (.iconst 1, 1) := by decide +kernel
theorem dX12_workdaysIn_4 : decode cX12_workdaysIn 4 = .ok (.iadd, 1) := by decide +kernel
theorem dX12_workdaysIn_5 : decode cX12_workdaysIn 5 = .ok (.istore 4, 2) := by decide +kernel
theorem dX12_workdaysIn_7 : decode cX12_workdaysIn 7 = .ok (.iload 4, 2) := by decide +kernel
theorem dX12_workdaysIn_9 : decode cX12_workdaysIn 9 = .ok (.iload_n 2, 1) := by decide +kernel
theorem dX12_workdaysIn_10 : decode cX12_workdaysIn 10 = .ok (.if_icmp .gt 36, 3) := by decide +kernel
theorem dX12_workdaysIn_13 : decode cX12_workdaysIn 13 = .ok (.iload_n 3, 1) := by decide +kernel
theorem dX12_workdaysIn_14 : decode cX12_workdaysIn 14 = .ok (.iload 4, 2) := by decide +kernel
theorem dX12_workdaysIn_16 : decode cX12_workdaysIn 16 = .ok (.bipush 7, 2) := by decide +kernel
theorem dX12_workdaysIn_18 : decode cX12_workdaysIn 18 = .ok (.irem, 1) := by decide +kernel
theorem dX12_workdaysIn_19 : decode cX12_workdaysIn 19 = .ok (.iconst 5, 1) := by decide +kernel
theorem dX12_workdaysIn_20 : decode cX12_workdaysIn 20 = .ok (.if_icmp .ge 17, 3) := by decide +kernel
theorem dX12_workdaysIn_23 : decode cX12_workdaysIn 23 = .ok (.aload_n 0, 1) := by decide +kernel
theorem dX12_workdaysIn_24 : decode cX12_workdaysIn 24 = .ok (.getfield 7, 3) := by decide +kernel
theorem dX12_workdaysIn_27 : decode cX12_workdaysIn 27 = .ok (.iload 4, 2) := by decide +kernel
theorem dX12_workdaysIn_29 : decode cX12_workdaysIn 29 = .ok (.baload, 1) := by decide +kernel
theorem dX12_workdaysIn_30 : decode cX12_workdaysIn 30 = .ok (.ifCond .ne 7, 3) := by decide +kernel
theorem dX12_workdaysIn_33 : decode cX12_workdaysIn 33 = .ok (.iconst 1, 1) := by decide +kernel
theorem dX12_workdaysIn_34 : decode cX12_workdaysIn 34 = .ok (.goto 4, 3) := by decide +kernel
theorem dX12_workdaysIn_37 : decode cX12_workdaysIn 37 = .ok (.iconst 0, 1) := by decide +kernel
theorem dX12_workdaysIn_38 : decode cX12_workdaysIn 38 = .ok (.iadd, 1) := by decide +kernel
theorem dX12_workdaysIn_39 : decode cX12_workdaysIn 39 = .ok (.istore_n 3, 1) := by decide +kernel
theorem dX12_workdaysIn_40 : decode cX12_workdaysIn 40 = .ok (.iinc 4 1, 3) := by decide +kernel
theorem dX12_workdaysIn_43 : decode cX12_workdaysIn 43 = .ok (.goto (-36), 3) := by decide +kernel
theorem dX12_workdaysIn_46 : decode cX12_workdaysIn 46 = .ok (.iload_n 3, 1) := by decide +kernel
theorem dX12_workdaysIn_47 : decode cX12_workdaysIn 47 = .ok (.ireturn, 1) := by decide +kernel
theorem dX12_workdays_0 : decode cX12_workdays 0 = .ok (.iload_n 1, 1) := by decide +kernel
theorem dX12_workdays_1 : decode cX12_workdays 1 = .ok (.ifCond .lt 7, 3) := by decide +kernel
theorem dX12_workdays_4 : decode cX12_workdays 4 = .ok (.iload_n 2, 1) := by decide +kernel
theorem dX12_workdays_5 : decode cX12_workdays 5 = .ok (.ifCond .ge 10, 3) := by decide +kernel
theorem dX12_workdays_8 : decode cX12_workdays 8 = .ok (.aload_n 0, 1) := by decide +kernel
theorem dX12_workdays_9 : decode cX12_workdays 9 = .ok (.bipush (-4), 2) := by decide +kernel
theorem dX12_workdays_11 : decode cX12_workdays 11 = .ok (.invokevirtual 269, 3) := by decide +kernel
theorem dX12_workdays_14 : decode cX12_workdays 14 = .ok (.ireturn, 1) := by decide +kernel
theorem dX12_workdays_15 : decode cX12_workdays 15 = .ok (.iload_n 1, 1) := by decide +kernel
theorem dX12_workdays_16 : decode cX12_workdays 16 = .ok (.sipush 1000, 3) := by decide +kernel
theorem dX12_workdays_19 : decode cX12_workdays 19 = .ok (.if_icmp .gt 10, 3) := by decide +kernel
theorem dX12_workdays_22 : decode cX12_workdays 22 = .ok (.iload_n 2, 1) := by decide +kernel
theorem dX12_workdays_23 : decode cX12_workdays 23 = .ok (.sipush 1000, 3) := by decide +kernel
theorem dX12_workdays_26 : decode cX12_workdays 26 = .ok (.if_icmp .le 12, 3) := by decide +kernel
theorem dX12_workdays_29 : decode cX12_workdays 29 = .ok (.aload_n 0, 1) := by decide +kernel
theorem dX12_workdays_30 : decode cX12_workdays 30 = .ok (.bipush (-6), 2) := by decide +kernel
theorem dX12_workdays_32 : decode cX12_workdays 32 = .ok (.invokevirtual 269, 3) := by decide +kernel
theorem dX12_workdays_35 : decode cX12_workdays 35 = .ok (.goto 9, 3) := by decide +kernel
theorem dX12_workdays_38 : decode cX12_workdays 38 = .ok (.aload_n 0, 1) := by decide +kernel
theorem dX12_workdays_39 : decode cX12_workdays 39 = .ok (.iload_n 1, 1) := by decide +kernel
theorem dX12_workdays_40 : decode cX12_workdays 40 = .ok (.iload_n 2, 1) := by decide +kernel
theorem dX12_workdays_41 : decode cX12_workdays 41 = .ok (.invokevirtual 276, 3) := by decide +kernel
theorem dX12_workdays_44 : decode cX12_workdays 44 = .ok (.ireturn, 1) := by decide +kernel
theorem dX12_person_0 : decode cX12_person 0 = .ok (.iload_n 1, 1) := by decide +kernel
theorem dX12_person_1 : decode cX12_person 1 = .ok (.invokestatic 280, 3) := by decide +kernel
theorem dX12_person_4 : decode cX12_person 4 = .ok (.ifCond .ne 9, 3) := by decide +kernel
theorem dX12_person_7 : decode cX12_person 7 = .ok (.aload_n 0, 1) := by decide +kernel
theorem dX12_person_8 : decode cX12_person 8 = .ok (.iconst (-1), 1) := by decide +kernel
theorem dX12_person_9 : decode cX12_person 9 = .ok (.invokevirtual 269, 3) := by decide +kernel
theorem dX12_person_12 : decode cX12_person 12 = .ok (.ireturn, 1) := by decide +kernel
theorem dX12_person_13 : decode cX12_person 13 = .ok (.iload_n 2, 1) := by decide +kernel
theorem dX12_person_14 : decode cX12_person 14 = .ok (.sipush (-25000), 3) := by decide +kernel
theorem dX12_person_17 : decode cX12_person 17 = .ok (.if_icmp .lt 20, 3) := by decide +kernel
theorem dX12_person_20 : decode cX12_person 20 = .ok (.iload_n 3, 1) := by decide +kernel
theorem dX12_person_21 : decode cX12_person 21 = .ok (.sipush (-15000), 3) := by decide +kernel
theorem dX12_person_24 : decode cX12_person 24 = .ok (.if_icmp .lt 13, 3) := by decide +kernel
theorem dX12_person_27 : decode cX12_person 27 = .ok (.iload 4, 2) := by decide +kernel
theorem dX12_person_29 : decode cX12_person 29 = .ok (.ifCond .lt 8, 3) := by decide +kernel
theorem dX12_person_32 : decode cX12_person 32 = .ok (.iload 5, 2) := by decide +kernel
theorem dX12_person_34 : decode cX12_person 34 = .ok (.ifCond .ge 10, 3) := by decide +kernel
theorem dX12_person_37 : decode cX12_person 37 = .ok (.aload_n 0, 1) := by decide +kernel
theorem dX12_person_38 : decode cX12_person 38 = .ok (.bipush (-4), 2) := by decide +kernel
theorem dX12_person_40 : decode cX12_person 40 = .ok (.invokevirtual 269, 3) := by decide +kernel
theorem dX12_person_43 : decode cX12_person 43 = .ok (.ireturn, 1) := by decide +kernel
theorem dX12_person_44 : decode cX12_person 44 = .ok (.iload_n 2, 1) := by decide +kernel
theorem dX12_person_45 : decode cX12_person 45 = .ok (.sipush (-5000), 3) := by decide +kernel
theorem dX12_person_48 : decode cX12_person 48 = .ok (.if_icmp .gt 34, 3) := by decide +kernel
theorem dX12_person_51 : decode cX12_person 51 = .ok (.iload_n 3, 1) := by decide +kernel
theorem dX12_person_52 : decode cX12_person 52 = .ok (.aload_n 0, 1) := by decide +kernel
theorem dX12_person_53 : decode cX12_person 53 = .ok (.getfield 273, 3) := by decide +kernel
theorem dX12_person_56 : decode cX12_person 56 = .ok (.if_icmp .gt 26, 3) := by decide +kernel
theorem dX12_person_59 : decode cX12_person 59 = .ok (.iload 4, 2) := by decide +kernel
theorem dX12_person_61 : decode cX12_person 61 = .ok (.bipush 9, 2) := by decide +kernel
theorem dX12_person_63 : decode cX12_person 63 = .ok (.if_icmp .gt 19, 3) := by decide +kernel
theorem dX12_person_66 : decode cX12_person 66 = .ok (.iload 5, 2) := by decide +kernel
theorem dX12_person_68 : decode cX12_person 68 = .ok (.bipush 100, 2) := by decide +kernel
theorem dX12_person_70 : decode cX12_person 70 = .ok (.if_icmp .gt 12, 3) := by decide +kernel
theorem dX12_person_73 : decode cX12_person 73 = .ok (.aload_n 0, 1) := by decide +kernel
theorem dX12_person_74 : decode cX12_person 74 = .ok (.getfield 266, 3) := by decide +kernel
theorem dX12_person_77 : decode cX12_person 77 = .ok (.bipush 24, 2) := by decide +kernel
theorem dX12_person_79 : decode cX12_person 79 = .ok (.if_icmp .ne 10, 3) := by decide +kernel
theorem dX12_person_82 : decode cX12_person 82 = .ok (.aload_n 0, 1) := by decide +kernel
theorem dX12_person_83 : decode cX12_person 83 = .ok (.bipush (-6), 2) := by decide +kernel
theorem dX12_person_85 : decode cX12_person 85 = .ok (.invokevirtual 269, 3) := by decide +kernel
theorem dX12_person_88 : decode cX12_person 88 = .ok (.ireturn, 1) := by decide +kernel
theorem dX12_person_89 : decode cX12_person 89 = .ok (.aload_n 0, 1) := by decide +kernel
theorem dX12_person_90 : decode cX12_person 90 = .ok (.iconst (-1), 1) := by decide +kernel
theorem dX12_person_91 : decode cX12_person 91 = .ok (.putfield 218, 3) := by decide +kernel
theorem dX12_person_94 : decode cX12_person 94 = .ok (.aload_n 0, 1) := by decide +kernel
theorem dX12_person_95 : decode cX12_person 95 = .ok (.getfield 13, 3) := by decide +kernel
theorem dX12_person_98 : decode cX12_person 98 = .ok (.aload_n 0, 1) := by decide +kernel
theorem dX12_person_99 : decode cX12_person 99 = .ok (.getfield 266, 3) := by decide +kernel
theorem dX12_person_102 : decode cX12_person 102 = .ok (.iload_n 1, 1) := by decide +kernel
theorem dX12_person_103 : decode cX12_person 103 = .ok (.iastore, 1) := by decide +kernel
theorem dX12_person_104 : decode cX12_person 104 = .ok (.aload_n 0, 1) := by decide +kernel
theorem dX12_person_105 : decode cX12_person 105 = .ok (.getfield 17, 3) := by decide +kernel
theorem dX12_person_108 : decode cX12_person 108 = .ok (.aload_n 0, 1) := by decide +kernel
theorem dX12_person_109 : decode cX12_person 109 = .ok (.getfield 266, 3) := by decide +kernel
theorem dX12_person_112 : decode cX12_person 112 = .ok (.iload_n 2, 1) := by decide +kernel
theorem dX12_person_113 : decode cX12_person 113 = .ok (.iastore, 1) := by decide +kernel
theorem dX12_person_114 : decode cX12_person 114 = .ok (.aload_n 0, 1) := by decide +kernel
theorem dX12_person_115 : decode cX12_person 115 = .ok (.getfield 20, 3) := by decide +kernel
theorem dX12_person_118 : decode cX12_person 118 = .ok (.aload_n 0, 1) := by decide +kernel
theorem dX12_person_119 : decode cX12_person 119 = .ok (.getfield 266, 3) := by decide +kernel
theorem dX12_person_122 : decode cX12_person 122 = .ok (.iload_n 3, 1) := by decide +kernel
theorem dX12_person_123 : decode cX12_person 123 = .ok (.iastore, 1) := by decide +kernel
theorem dX12_person_124 : decode cX12_person 124 = .ok (.aload_n 0, 1) := by decide +kernel
theorem dX12_person_125 : decode cX12_person 125 = .ok (.getfield 23, 3) := by decide +kernel
theorem dX12_person_128 : decode cX12_person 128 = .ok (.iconst 2, 1) := by decide +kernel
theorem dX12_person_129 : decode cX12_person 129 = .ok (.aload_n 0, 1) := by decide +kernel
theorem dX12_person_130 : decode cX12_person 130 = .ok (.getfield 266, 3) := by decide +kernel
theorem dX12_person_133 : decode cX12_person 133 = .ok (.imul, 1) := by decide +kernel
theorem dX12_person_134 : decode cX12_person 134 = .ok (.iload 4, 2) := by decide +kernel
theorem dX12_person_136 : decode cX12_person 136 = .ok (.iastore, 1) := by decide +kernel
theorem dX12_person_137 : decode cX12_person 137 = .ok (.aload_n 0, 1) := by decide +kernel
theorem dX12_person_138 : decode cX12_person 138 = .ok (.getfield 23, 3) := by decide +kernel
theorem dX12_person_141 : decode cX12_person 141 = .ok (.iconst 2, 1) := by decide +kernel
theorem dX12_person_142 : decode cX12_person 142 = .ok (.aload_n 0, 1) := by decide +kernel
theorem dX12_person_143 : decode cX12_person 143 = .ok (.getfield 266, 3) := by decide +kernel
theorem dX12_person_146 : decode cX12_person 146 = .ok (.imul, 1) := by decide +kernel
theorem dX12_person_147 : decode cX12_person 147 = .ok (.iconst 1, 1) := by decide +kernel
theorem dX12_person_148 : decode cX12_person 148 = .ok (.iadd, 1) := by decide +kernel
theorem dX12_person_149 : decode cX12_person 149 = .ok (.iload 5, 2) := by decide +kernel
theorem dX12_person_151 : decode cX12_person 151 = .ok (.iastore, 1) := by decide +kernel
theorem dX12_person_152 : decode cX12_person 152 = .ok (.aload_n 0, 1) := by decide +kernel
theorem dX12_person_153 : decode cX12_person 153 = .ok (.getfield 26, 3) := by decide +kernel
theorem dX12_person_156 : decode cX12_person 156 = .ok (.iconst 2, 1) := by decide +kernel
theorem dX12_person_157 : decode cX12_person 157 = .ok (.aload_n 0, 1) := by decide +kernel
theorem dX12_person_158 : decode cX12_person 158 = .ok (.getfield 266, 3) := by decide +kernel
theorem dX12_person_161 : decode cX12_person 161 = .ok (.imul, 1) := by decide +kernel
theorem dX12_person_162 : decode cX12_person 162 = .ok (.iload 4, 2) := by decide +kernel
theorem dX12_person_164 : decode cX12_person 164 = .ok (.iastore, 1) := by decide +kernel
theorem dX12_person_165 : decode cX12_person 165 = .ok (.aload_n 0, 1) := by decide +kernel
theorem dX12_person_166 : decode cX12_person 166 = .ok (.getfield 26, 3) := by decide +kernel
theorem dX12_person_169 : decode cX12_person 169 = .ok (.iconst 2, 1) := by decide +kernel
theorem dX12_person_170 : decode cX12_person 170 = .ok (.aload_n 0, 1) := by decide +kernel
theorem dX12_person_171 : decode cX12_person 171 = .ok (.getfield 266, 3) := by decide +kernel
theorem dX12_person_174 : decode cX12_person 174 = .ok (.imul, 1) := by decide +kernel
theorem dX12_person_175 : decode cX12_person 175 = .ok (.iconst 1, 1) := by decide +kernel
theorem dX12_person_176 : decode cX12_person 176 = .ok (.iadd, 1) := by decide +kernel
theorem dX12_person_177 : decode cX12_person 177 = .ok (.iload 5, 2) := by decide +kernel
theorem dX12_person_179 : decode cX12_person 179 = .ok (.iastore, 1) := by decide +kernel
theorem dX12_person_180 : decode cX12_person 180 = .ok (.aload_n 0, 1) := by decide +kernel
theorem dX12_person_181 : decode cX12_person 181 = .ok (.dup, 1) := by decide +kernel
theorem dX12_person_182 : decode cX12_person 182 = .ok (.getfield 266, 3) := by decide +kernel
theorem dX12_person_185 : decode cX12_person 185 = .ok (.iconst 1, 1) := by decide +kernel
theorem dX12_person_186 : decode cX12_person 186 = .ok (.iadd, 1) := by decide +kernel
theorem dX12_person_187 : decode cX12_person 187 = .ok (.putfield 266, 3) := by decide +kernel
theorem dX12_person_190 : decode cX12_person 190 = .ok (.aload_n 0, 1) := by decide +kernel
theorem dX12_person_191 : decode cX12_person 191 = .ok (.getfield 266, 3) := by decide +kernel
theorem dX12_person_194 : decode cX12_person 194 = .ok (.iconst 1, 1) := by decide +kernel
theorem dX12_person_195 : decode cX12_person 195 = .ok (.isub, 1) := by decide +kernel
theorem dX12_person_196 : decode cX12_person 196 = .ok (.ireturn, 1) := by decide +kernel
theorem dX12_leave_0 : decode cX12_leave 0 = .ok (.aload_n 0, 1) := by decide +kernel
theorem dX12_leave_1 : decode cX12_leave 1 = .ok (.iload_n 1, 1) := by decide +kernel
theorem dX12_leave_2 : decode cX12_leave 2 = .ok (.invokevirtual 284, 3) := by decide +kernel
theorem dX12_leave_5 : decode cX12_leave 5 = .ok (.ifCond .ne 9, 3) := by decide +kernel
theorem dX12_leave_8 : decode cX12_leave 8 = .ok (.aload_n 0, 1) := by decide +kernel
theorem dX12_leave_9 : decode cX12_leave 9 = .ok (.iconst (-1), 1) := by decide +kernel
theorem dX12_leave_10 : decode cX12_leave 10 = .ok (.invokevirtual 269, 3) := by decide +kernel
theorem dX12_leave_13 : decode cX12_leave 13 = .ok (.ireturn, 1) := by decide +kernel
theorem dX12_leave_14 : decode cX12_leave 14 = .ok (.aload_n 0, 1) := by decide +kernel
theorem dX12_leave_15 : decode cX12_leave 15 = .ok (.getfield 29, 3) := by decide +kernel
theorem dX12_leave_18 : decode cX12_leave 18 = .ok (.iload_n 1, 1) := by decide +kernel
theorem dX12_leave_19 : decode cX12_leave 19 = .ok (.baload, 1) := by decide +kernel
theorem dX12_leave_20 : decode cX12_leave 20 = .ok (.ifCond .eq 10, 3) := by decide +kernel
theorem dX12_leave_23 : decode cX12_leave 23 = .ok (.aload_n 0, 1) := by decide +kernel
theorem dX12_leave_24 : decode cX12_leave 24 = .ok (.bipush (-3), 2) := by decide +kernel
theorem dX12_leave_26 : decode cX12_leave 26 = .ok (.invokevirtual 269, 3) := by decide +kernel
theorem dX12_leave_29 : decode cX12_leave 29 = .ok (.ireturn, 1) := by decide +kernel
theorem dX12_leave_30 : decode cX12_leave 30 = .ok (.aload_n 0, 1) := by decide +kernel
theorem dX12_leave_31 : decode cX12_leave 31 = .ok (.iconst (-1), 1) := by decide +kernel
theorem dX12_leave_32 : decode cX12_leave 32 = .ok (.putfield 218, 3) := by decide +kernel
theorem dX12_leave_35 : decode cX12_leave 35 = .ok (.aload_n 0, 1) := by decide +kernel
theorem dX12_leave_36 : decode cX12_leave 36 = .ok (.getfield 29, 3) := by decide +kernel
theorem dX12_leave_39 : decode cX12_leave 39 = .ok (.iload_n 1, 1) := by decide +kernel
theorem dX12_leave_40 : decode cX12_leave 40 = .ok (.iconst 1, 1) := by decide +kernel
theorem dX12_leave_41 : decode cX12_leave 41 = .ok (.bastore, 1) := by decide +kernel
theorem dX12_leave_42 : decode cX12_leave 42 = .ok (.iconst 1, 1) := by decide +kernel
theorem dX12_leave_43 : decode cX12_leave 43 = .ok (.ireturn, 1) := by decide +kernel
theorem dX12_feed_0 : decode cX12_feed 0 = .ok (.iload_n 1, 1) := by decide +kernel
theorem dX12_feed_1 : decode cX12_feed 1 = .ok (.iconst 1, 1) := by decide +kernel
theorem dX12_feed_2 : decode cX12_feed 2 = .ok (.if_icmp .ge 10, 3) := by decide +kernel
theorem dX12_feed_5 : decode cX12_feed 5 = .ok (.aload_n 0, 1) := by decide +kernel
theorem dX12_feed_6 : decode cX12_feed 6 = .ok (.bipush (-4), 2) := by decide +kernel
theorem dX12_feed_8 : decode cX12_feed 8 = .ok (.invokevirtual 269, 3) := by decide +kernel
theorem dX12_feed_11 : decode cX12_feed 11 = .ok (.ireturn, 1) := by decide +kernel
theorem dX12_feed_12 : decode cX12_feed 12 = .ok (.iload_n 1, 1) := by decide +kernel
theorem dX12_feed_13 : decode cX12_feed 13 = .ok (.bipush 8, 2) := by decide +kernel
theorem dX12_feed_15 : decode cX12_feed 15 = .ok (.if_icmp .gt 14, 3) := by decide +kernel
theorem dX12_feed_18 : decode cX12_feed 18 = .ok (.aload_n 0, 1) := by decide +kernel
theorem dX12_feed_19 : decode cX12_feed 19 = .ok (.getfield 287, 3) := by decide +kernel
theorem dX12_feed_22 : decode cX12_feed 22 = .ok (.iload_n 1, 1) := by decide +kernel
theorem dX12_feed_23 : decode cX12_feed 23 = .ok (.iadd, 1) := by decide +kernel
theorem dX12_feed_24 : decode cX12_feed 24 = .ok (.bipush 60, 2) := by decide +kernel
theorem dX12_feed_26 : decode cX12_feed 26 = .ok (.if_icmp .le 10, 3) := by decide +kernel
theorem dX12_feed_29 : decode cX12_feed 29 = .ok (.aload_n 0, 1) := by decide +kernel
theorem dX12_feed_30 : decode cX12_feed 30 = .ok (.bipush (-6), 2) := by decide +kernel
theorem dX12_feed_32 : decode cX12_feed 32 = .ok (.invokevirtual 269, 3) := by decide +kernel
theorem dX12_feed_35 : decode cX12_feed 35 = .ok (.ireturn, 1) := by decide +kernel
theorem dX12_feed_36 : decode cX12_feed 36 = .ok (.iconst 0, 1) := by decide +kernel
theorem dX12_feed_37 : decode cX12_feed 37 = .ok (.istore 4, 2) := by decide +kernel
theorem dX12_feed_39 : decode cX12_feed 39 = .ok (.iload 4, 2) := by decide +kernel
theorem dX12_feed_41 : decode cX12_feed 41 = .ok (.iload_n 1, 1) := by decide +kernel
theorem dX12_feed_42 : decode cX12_feed 42 = .ok (.if_icmp .ge 40, 3) := by decide +kernel
theorem dX12_feed_45 : decode cX12_feed 45 = .ok (.aload_n 0, 1) := by decide +kernel
theorem dX12_feed_46 : decode cX12_feed 46 = .ok (.getfield 35, 3) := by decide +kernel
theorem dX12_feed_49 : decode cX12_feed 49 = .ok (.aload_n 0, 1) := by decide +kernel
theorem dX12_feed_50 : decode cX12_feed 50 = .ok (.getfield 287, 3) := by decide +kernel
theorem dX12_feed_53 : decode cX12_feed 53 = .ok (.lload_n 2, 1) := by decide +kernel
theorem dX12_feed_54 : decode cX12_feed 54 = .ok (.bipush 8, 2) := by decide +kernel
theorem dX12_feed_56 : decode cX12_feed 56 = .ok (.iload 4, 2) := by decide +kernel
theorem dX12_feed_58 : decode cX12_feed 58 = .ok (.imul, 1) := by decide +kernel
theorem dX12_feed_59 : decode cX12_feed 59 = .ok (.lshr, 1) := by decide +kernel
theorem dX12_feed_60 : decode cX12_feed 60 = .ok (.ldc2_w 290, 3) := by decide +kernel
theorem dX12_feed_63 : decode cX12_feed 63 = .ok (.land, 1) := by decide +kernel
theorem dX12_feed_64 : decode cX12_feed 64 = .ok (.l2i, 1) := by decide +kernel
theorem dX12_feed_65 : decode cX12_feed 65 = .ok (.iastore, 1) := by decide +kernel
theorem dX12_feed_66 : decode cX12_feed 66 = .ok (.aload_n 0, 1) := by decide +kernel
theorem dX12_feed_67 : decode cX12_feed 67 = .ok (.dup, 1) := by decide +kernel
theorem dX12_feed_68 : decode cX12_feed 68 = .ok (.getfield 287, 3) := by decide +kernel
theorem dX12_feed_71 : decode cX12_feed 71 = .ok (.iconst 1, 1) := by decide +kernel
theorem dX12_feed_72 : decode cX12_feed 72 = .ok (.iadd, 1) := by decide +kernel
theorem dX12_feed_73 : decode cX12_feed 73 = .ok (.putfield 287, 3) := by decide +kernel
theorem dX12_feed_76 : decode cX12_feed 76 = .ok (.iinc 4 1, 3) := by decide +kernel
theorem dX12_feed_79 : decode cX12_feed 79 = .ok (.goto (-40), 3) := by decide +kernel
theorem dX12_feed_82 : decode cX12_feed 82 = .ok (.aload_n 0, 1) := by decide +kernel
theorem dX12_feed_83 : decode cX12_feed 83 = .ok (.getfield 287, 3) := by decide +kernel
theorem dX12_feed_86 : decode cX12_feed 86 = .ok (.ireturn, 1) := by decide +kernel
theorem dX12_byteHere_0 : decode cX12_byteHere 0 = .ok (.aload_n 0, 1) := by decide +kernel
theorem dX12_byteHere_1 : decode cX12_byteHere 1 = .ok (.getfield 292, 3) := by decide +kernel
theorem dX12_byteHere_4 : decode cX12_byteHere 4 = .ok (.aload_n 0, 1) := by decide +kernel
theorem dX12_byteHere_5 : decode cX12_byteHere 5 = .ok (.getfield 295, 3) := by decide +kernel
theorem dX12_byteHere_8 : decode cX12_byteHere 8 = .ok (.if_icmp .lt 7, 3) := by decide +kernel
theorem dX12_byteHere_11 : decode cX12_byteHere 11 = .ok (.iconst (-1), 1) := by decide +kernel
theorem dX12_byteHere_12 : decode cX12_byteHere 12 = .ok (.goto 36, 3) := by decide +kernel
theorem dX12_byteHere_15 : decode cX12_byteHere 15 = .ok (.aload_n 0, 1) := by decide +kernel
theorem dX12_byteHere_16 : decode cX12_byteHere 16 = .ok (.getfield 298, 3) := by decide +kernel
theorem dX12_byteHere_19 : decode cX12_byteHere 19 = .ok (.ifCond .eq 20, 3) := by decide +kernel
theorem dX12_byteHere_22 : decode cX12_byteHere 22 = .ok (.aload_n 0, 1) := by decide +kernel
theorem dX12_byteHere_23 : decode cX12_byteHere 23 = .ok (.getfield 38, 3) := by decide +kernel
theorem dX12_byteHere_26 : decode cX12_byteHere 26 = .ok (.aload_n 0, 1) := by decide +kernel
theorem dX12_byteHere_27 : decode cX12_byteHere 27 = .ok (.getfield 302, 3) := by decide +kernel
theorem dX12_byteHere_30 : decode cX12_byteHere 30 = .ok (.aload_n 0, 1) := by decide +kernel
theorem dX12_byteHere_31 : decode cX12_byteHere 31 = .ok (.getfield 292, 3) := by decide +kernel
theorem dX12_byteHere_34 : decode cX12_byteHere 34 = .ok (.iadd, 1) := by decide +kernel
theorem dX12_byteHere_35 : decode cX12_byteHere 35 = .ok (.iaload, 1) := by decide +kernel
theorem dX12_byteHere_36 : decode cX12_byteHere 36 = .ok (.goto 12, 3) := by decide +kernel
theorem dX12_byteHere_39 : decode cX12_byteHere 39 = .ok (.aload_n 0, 1) := by decide +kernel
theorem dX12_byteHere_40 : decode cX12_byteHere 40 = .ok (.getfield 35, 3) := by decide +kernel
theorem dX12_byteHere_43 : decode cX12_byteHere 43 = .ok (.aload_n 0, 1) := by decide +kernel
theorem dX12_byteHere_44 : decode cX12_byteHere 44 = .ok (.getfield 292, 3) := by decide +kernel
theorem dX12_byteHere_47 : decode cX12_byteHere 47 = .ok (.iaload, 1) := by decide +kernel
theorem dX12_byteHere_48 : decode cX12_byteHere 48 = .ok (.ireturn, 1) := by decide +kernel
theorem dX12_factOf_0 : decode cX12_factOf 0 = .ok (.iload_n 0, 1) := by decide +kernel
theorem dX12_factOf_1 : decode cX12_factOf 1 = .ok (.lookupswitch 71 #[(99, 67), (109, 65), (110, 59), (115, 63), (117, 69), (119, 61)], 59) := by decide +kernel
theorem dX12_factOf_60 : decode cX12_factOf 60 = .ok (.iconst 0, 1) := by decide +kernel
theorem dX12_factOf_61 : decode cX12_factOf 61 = .ok (.ireturn, 1) := by decide +kernel
theorem dX12_factOf_62 : decode cX12_factOf 62 = .ok (.iconst 1, 1) := by decide +kernel
theorem dX12_factOf_63 : decode cX12_factOf 63 = .ok (.ireturn, 1) := by decide +kernel
theorem dX12_factOf_64 : decode cX12_factOf 64 = .ok (.iconst 2, 1) := by decide +kernel
theorem dX12_factOf_65 : decode cX12_factOf 65 = .ok (.ireturn, 1) := by decide +kernel
theorem dX12_factOf_66 : decode cX12_factOf 66 = .ok (.iconst 3, 1) := by decide +kernel
theorem dX12_factOf_67 : decode cX12_factOf 67 = .ok (.ireturn, 1) := by decide +kernel
theorem dX12_factOf_68 : decode cX12_factOf 68 = .ok (.iconst 4, 1) := by decide +kernel
theorem dX12_factOf_69 : decode cX12_factOf 69 = .ok (.ireturn, 1) := by decide +kernel
theorem dX12_factOf_70 : decode cX12_factOf 70 = .ok (.iconst 5, 1) := by decide +kernel
theorem dX12_factOf_71 : decode cX12_factOf 71 = .ok (.ireturn, 1) := by decide +kernel
theorem dX12_factOf_72 : decode cX12_factOf 72 = .ok (.iconst (-1), 1) := by decide +kernel
theorem dX12_factOf_73 : decode cX12_factOf 73 = .ok (.ireturn, 1) := by decide +kernel
theorem dX12_readUnit_0 : decode cX12_readUnit 0 = .ok (.aload_n 0, 1) := by decide +kernel
theorem dX12_readUnit_1 : decode cX12_readUnit 1 = .ok (.invokevirtual 305, 3) := by decide +kernel
theorem dX12_readUnit_4 : decode cX12_readUnit 4 = .ok (.istore_n 1, 1) := by decide +kernel
theorem dX12_readUnit_5 : decode cX12_readUnit 5 = .ok (.iload_n 1, 1) := by decide +kernel
theorem dX12_readUnit_6 : decode cX12_readUnit 6 = .ok (.invokestatic 309, 3) := by decide +kernel
theorem dX12_readUnit_9 : decode cX12_readUnit 9 = .ok (.ifCond .lt 23, 3) := by decide +kernel
theorem dX12_readUnit_12 : decode cX12_readUnit 12 = .ok (.aload_n 0, 1) := by decide +kernel
theorem dX12_readUnit_13 : decode cX12_readUnit 13 = .ok (.dup, 1) := by decide +kernel
theorem dX12_readUnit_14 : decode cX12_readUnit 14 = .ok (.getfield 292, 3) := by decide +kernel
theorem dX12_readUnit_17 : decode cX12_readUnit 17 = .ok (.iconst 1, 1) := by decide +kernel
theorem dX12_readUnit_18 : decode cX12_readUnit 18 = .ok (.iadd, 1) := by decide +kernel
theorem dX12_readUnit_19 : decode cX12_readUnit 19 = .ok (.putfield 292, 3) := by decide +kernel
theorem dX12_readUnit_22 : decode cX12_readUnit 22 = .ok (.aload_n 0, 1) := by decide +kernel
theorem dX12_readUnit_23 : decode cX12_readUnit 23 = .ok (.getfield 50, 3) := by decide +kernel
theorem dX12_readUnit_26 : decode cX12_readUnit 26 = .ok (.iload_n 1, 1) := by decide +kernel
theorem dX12_readUnit_27 : decode cX12_readUnit 27 = .ok (.invokestatic 309, 3) := by decide +kernel
theorem dX12_readUnit_30 : decode cX12_readUnit 30 = .ok (.iaload, 1) := by decide +kernel
theorem dX12_readUnit_31 : decode cX12_readUnit 31 = .ok (.ireturn, 1) := by decide +kernel
theorem dX12_readUnit_32 : decode cX12_readUnit 32 = .ok (.iload_n 1, 1) := by decide +kernel
theorem dX12_readUnit_33 : decode cX12_readUnit 33 = .ok (.bipush 48, 2) := by decide +kernel
theorem dX12_readUnit_35 : decode cX12_readUnit 35 = .ok (.bipush 57, 2) := by decide +kernel
theorem dX12_readUnit_37 : decode cX12_readUnit 37 = .ok (.invokestatic 262, 3) := by decide +kernel
theorem dX12_readUnit_40 : decode cX12_readUnit 40 = .ok (.ifCond .ne 10, 3) := by decide +kernel
theorem dX12_readUnit_43 : decode cX12_readUnit 43 = .ok (.aload_n 0, 1) := by decide +kernel
theorem dX12_readUnit_44 : decode cX12_readUnit 44 = .ok (.iconst 1, 1) := by decide +kernel
theorem dX12_readUnit_45 : decode cX12_readUnit 45 = .ok (.putfield 312, 3) := by decide +kernel
theorem dX12_readUnit_48 : decode cX12_readUnit 48 = .ok (.iconst 0, 1) := by decide +kernel
theorem dX12_readUnit_49 : decode cX12_readUnit 49 = .ok (.ireturn, 1) := by decide +kernel
theorem dX12_readUnit_50 : decode cX12_readUnit 50 = .ok (.iconst 0, 1) := by decide +kernel
theorem dX12_readUnit_51 : decode cX12_readUnit 51 = .ok (.istore_n 2, 1) := by decide +kernel
theorem dX12_readUnit_52 : decode cX12_readUnit 52 = .ok (.iconst 0, 1) := by decide +kernel
theorem dX12_readUnit_53 : decode cX12_readUnit 53 = .ok (.istore_n 3, 1) := by decide +kernel
theorem dX12_readUnit_54 : decode cX12_readUnit 54 = .ok (.iload_n 3, 1) := by decide +kernel
theorem dX12_readUnit_55 : decode cX12_readUnit 55 = .ok (.iconst 4, 1) := by decide +kernel
theorem dX12_readUnit_56 : decode cX12_readUnit 56 = .ok (.if_icmp .ge 46, 3) := by decide +kernel
theorem dX12_readUnit_59 : decode cX12_readUnit 59 = .ok (.aload_n 0, 1) := by decide +kernel
theorem dX12_readUnit_60 : decode cX12_readUnit 60 = .ok (.invokevirtual 305, 3) := by decide +kernel
theorem dX12_readUnit_63 : decode cX12_readUnit 63 = .ok (.bipush 48, 2) := by decide +kernel
theorem dX12_readUnit_65 : decode cX12_readUnit 65 = .ok (.bipush 57, 2) := by decide +kernel
theorem dX12_readUnit_67 : decode cX12_readUnit 67 = .ok (.invokestatic 262, 3) := by decide +kernel
theorem dX12_readUnit_70 : decode cX12_readUnit 70 = .ok (.ifCond .eq 32, 3) := by decide +kernel
theorem dX12_readUnit_73 : decode cX12_readUnit 73 = .ok (.bipush 10, 2) := by decide +kernel
theorem dX12_readUnit_75 : decode cX12_readUnit 75 = .ok (.iload_n 2, 1) := by decide +kernel
theorem dX12_readUnit_76 : decode cX12_readUnit 76 = .ok (.imul, 1) := by decide +kernel
theorem dX12_readUnit_77 : decode cX12_readUnit 77 = .ok (.aload_n 0, 1) := by decide +kernel
theorem dX12_readUnit_78 : decode cX12_readUnit 78 = .ok (.invokevirtual 305, 3) := by decide +kernel
theorem dX12_readUnit_81 : decode cX12_readUnit 81 = .ok (.iadd, 1) := by decide +kernel
theorem dX12_readUnit_82 : decode cX12_readUnit 82 = .ok (.bipush 48, 2) := by decide +kernel
theorem dX12_readUnit_84 : decode cX12_readUnit 84 = .ok (.isub, 1) := by decide +kernel
theorem dX12_readUnit_85 : decode cX12_readUnit 85 = .ok (.istore_n 2, 1) := by decide +kernel
theorem dX12_readUnit_86 : decode cX12_readUnit 86 = .ok (.aload_n 0, 1) := by decide +kernel
theorem dX12_readUnit_87 : decode cX12_readUnit 87 = .ok (.dup, 1) := by decide +kernel
theorem dX12_readUnit_88 : decode cX12_readUnit 88 = .ok (.getfield 292, 3) := by decide +kernel
theorem dX12_readUnit_91 : decode cX12_readUnit 91 = .ok (.iconst 1, 1) := by decide +kernel
theorem dX12_readUnit_92 : decode cX12_readUnit 92 = .ok (.iadd, 1) := by decide +kernel
theorem dX12_readUnit_93 : decode cX12_readUnit 93 = .ok (.putfield 292, 3) := by decide +kernel
theorem dX12_readUnit_96 : decode cX12_readUnit 96 = .ok (.iinc 3 1, 3) := by decide +kernel
theorem dX12_readUnit_99 : decode cX12_readUnit 99 = .ok (.goto (-45), 3) := by decide +kernel
theorem dX12_readUnit_102 : decode cX12_readUnit 102 = .ok (.iload_n 2, 1) := by decide +kernel
theorem dX12_readUnit_103 : decode cX12_readUnit 103 = .ok (.ireturn, 1) := by decide +kernel
theorem dX12_readSum_0 : decode cX12_readSum 0 = .ok (.aload_n 0, 1) := by decide +kernel
theorem dX12_readSum_1 : decode cX12_readSum 1 = .ok (.invokevirtual 315, 3) := by decide +kernel
theorem dX12_readSum_4 : decode cX12_readSum 4 = .ok (.istore_n 1, 1) := by decide +kernel
theorem dX12_readSum_5 : decode cX12_readSum 5 = .ok (.aload_n 0, 1) := by decide +kernel
theorem dX12_readSum_6 : decode cX12_readSum 6 = .ok (.getfield 312, 3) := by decide +kernel
theorem dX12_readSum_9 : decode cX12_readSum 9 = .ok (.ifCond .ne 7, 3) := by decide +kernel
theorem dX12_readSum_12 : decode cX12_readSum 12 = .ok (.iconst 1, 1) := by decide +kernel
theorem dX12_readSum_13 : decode cX12_readSum 13 = .ok (.goto 4, 3) := by decide +kernel
theorem dX12_readSum_16 : decode cX12_readSum 16 = .ok (.iconst 0, 1) := by decide +kernel
theorem dX12_readSum_17 : decode cX12_readSum 17 = .ok (.istore_n 2, 1) := by decide +kernel
theorem dX12_readSum_18 : decode cX12_readSum 18 = .ok (.iload_n 2, 1) := by decide +kernel
theorem dX12_readSum_19 : decode cX12_readSum 19 = .ok (.ifCond .eq 99, 3) := by decide +kernel
theorem dX12_readSum_22 : decode cX12_readSum 22 = .ok (.aload_n 0, 1) := by decide +kernel
theorem dX12_readSum_23 : decode cX12_readSum 23 = .ok (.invokevirtual 305, 3) := by decide +kernel
theorem dX12_readSum_26 : decode cX12_readSum 26 = .ok (.istore_n 3, 1) := by decide +kernel
theorem dX12_readSum_27 : decode cX12_readSum 27 = .ok (.iload_n 3, 1) := by decide +kernel
theorem dX12_readSum_28 : decode cX12_readSum 28 = .ok (.bipush 43, 2) := by decide +kernel
theorem dX12_readSum_30 : decode cX12_readSum 30 = .ok (.if_icmp .eq 15, 3) := by decide +kernel
theorem dX12_readSum_33 : decode cX12_readSum 33 = .ok (.iload_n 3, 1) := by decide +kernel
theorem dX12_readSum_34 : decode cX12_readSum 34 = .ok (.bipush 45, 2) := by decide +kernel
theorem dX12_readSum_36 : decode cX12_readSum 36 = .ok (.if_icmp .eq 9, 3) := by decide +kernel
theorem dX12_readSum_39 : decode cX12_readSum 39 = .ok (.iload_n 3, 1) := by decide +kernel
theorem dX12_readSum_40 : decode cX12_readSum 40 = .ok (.bipush 42, 2) := by decide +kernel
theorem dX12_readSum_42 : decode cX12_readSum 42 = .ok (.if_icmp .ne 7, 3) := by decide +kernel
theorem dX12_readSum_45 : decode cX12_readSum 45 = .ok (.iconst 1, 1) := by decide +kernel
theorem dX12_readSum_46 : decode cX12_readSum 46 = .ok (.goto 4, 3) := by decide +kernel
theorem dX12_readSum_49 : decode cX12_readSum 49 = .ok (.iconst 0, 1) := by decide +kernel
theorem dX12_readSum_50 : decode cX12_readSum 50 = .ok (.istore_n 2, 1) := by decide +kernel
theorem dX12_readSum_51 : decode cX12_readSum 51 = .ok (.iload_n 2, 1) := by decide +kernel
theorem dX12_readSum_52 : decode cX12_readSum 52 = .ok (.ifCond .eq 63, 3) := by decide +kernel
theorem dX12_readSum_55 : decode cX12_readSum 55 = .ok (.aload_n 0, 1) := by decide +kernel
theorem dX12_readSum_56 : decode cX12_readSum 56 = .ok (.dup, 1) := by decide +kernel
theorem dX12_readSum_57 : decode cX12_readSum 57 = .ok (.getfield 292, 3) := by decide +kernel
theorem dX12_readSum_60 : decode cX12_readSum 60 = .ok (.iconst 1, 1) := by decide +kernel
theorem dX12_readSum_61 : decode cX12_readSum 61 = .ok (.iadd, 1) := by decide +kernel
theorem dX12_readSum_62 : decode cX12_readSum 62 = .ok (.putfield 292, 3) := by decide +kernel
theorem dX12_readSum_65 : decode cX12_readSum 65 = .ok (.aload_n 0, 1) := by decide +kernel
theorem dX12_readSum_66 : decode cX12_readSum 66 = .ok (.invokevirtual 315, 3) := by decide +kernel
theorem dX12_readSum_69 : decode cX12_readSum 69 = .ok (.istore 4, 2) := by decide +kernel
theorem dX12_readSum_71 : decode cX12_readSum 71 = .ok (.iload_n 3, 1) := by decide +kernel
theorem dX12_readSum_72 : decode cX12_readSum 72 = .ok (.bipush 43, 2) := by decide +kernel
theorem dX12_readSum_74 : decode cX12_readSum 74 = .ok (.if_icmp .ne 10, 3) := by decide +kernel
theorem dX12_readSum_77 : decode cX12_readSum 77 = .ok (.iload_n 1, 1) := by decide +kernel
theorem dX12_readSum_78 : decode cX12_readSum 78 = .ok (.iload 4, 2) := by decide +kernel
theorem dX12_readSum_80 : decode cX12_readSum 80 = .ok (.iadd, 1) := by decide +kernel
theorem dX12_readSum_81 : decode cX12_readSum 81 = .ok (.goto 20, 3) := by decide +kernel
theorem dX12_readSum_84 : decode cX12_readSum 84 = .ok (.iload_n 3, 1) := by decide +kernel
theorem dX12_readSum_85 : decode cX12_readSum 85 = .ok (.bipush 45, 2) := by decide +kernel
theorem dX12_readSum_87 : decode cX12_readSum 87 = .ok (.if_icmp .ne 10, 3) := by decide +kernel
theorem dX12_readSum_90 : decode cX12_readSum 90 = .ok (.iload_n 1, 1) := by decide +kernel
theorem dX12_readSum_91 : decode cX12_readSum 91 = .ok (.iload 4, 2) := by decide +kernel
theorem dX12_readSum_93 : decode cX12_readSum 93 = .ok (.isub, 1) := by decide +kernel
theorem dX12_readSum_94 : decode cX12_readSum 94 = .ok (.goto 7, 3) := by decide +kernel
theorem dX12_readSum_97 : decode cX12_readSum 97 = .ok (.iload_n 1, 1) := by decide +kernel
theorem dX12_readSum_98 : decode cX12_readSum 98 = .ok (.iload 4, 2) := by decide +kernel
theorem dX12_readSum_100 : decode cX12_readSum 100 = .ok (.imul, 1) := by decide +kernel
theorem dX12_readSum_101 : decode cX12_readSum 101 = .ok (.istore_n 1, 1) := by decide +kernel
theorem dX12_readSum_102 : decode cX12_readSum 102 = .ok (.aload_n 0, 1) := by decide +kernel
theorem dX12_readSum_103 : decode cX12_readSum 103 = .ok (.getfield 312, 3) := by decide +kernel
theorem dX12_readSum_106 : decode cX12_readSum 106 = .ok (.ifCond .ne 7, 3) := by decide +kernel
theorem dX12_readSum_109 : decode cX12_readSum 109 = .ok (.iconst 1, 1) := by decide +kernel
theorem dX12_readSum_110 : decode cX12_readSum 110 = .ok (.goto 4, 3) := by decide +kernel
theorem dX12_readSum_113 : decode cX12_readSum 113 = .ok (.iconst 0, 1) := by decide +kernel
theorem dX12_readSum_114 : decode cX12_readSum 114 = .ok (.istore_n 2, 1) := by decide +kernel
theorem dX12_readSum_115 : decode cX12_readSum 115 = .ok (.goto (-97), 3) := by decide +kernel
theorem dX12_readSum_118 : decode cX12_readSum 118 = .ok (.iload_n 1, 1) := by decide +kernel
theorem dX12_readSum_119 : decode cX12_readSum 119 = .ok (.ireturn, 1) := by decide +kernel
theorem dX12_readTest_0 : decode cX12_readTest 0 = .ok (.aload_n 0, 1) := by decide +kernel
theorem dX12_readTest_1 : decode cX12_readTest 1 = .ok (.invokevirtual 318, 3) := by decide +kernel
theorem dX12_readTest_4 : decode cX12_readTest 4 = .ok (.istore_n 1, 1) := by decide +kernel
theorem dX12_readTest_5 : decode cX12_readTest 5 = .ok (.aload_n 0, 1) := by decide +kernel
theorem dX12_readTest_6 : decode cX12_readTest 6 = .ok (.invokevirtual 305, 3) := by decide +kernel
theorem dX12_readTest_9 : decode cX12_readTest 9 = .ok (.istore_n 2, 1) := by decide +kernel
theorem dX12_readTest_10 : decode cX12_readTest 10 = .ok (.aload_n 0, 1) := by decide +kernel
theorem dX12_readTest_11 : decode cX12_readTest 11 = .ok (.getfield 312, 3) := by decide +kernel
theorem dX12_readTest_14 : decode cX12_readTest 14 = .ok (.ifCond .ne 21, 3) := by decide +kernel
theorem dX12_readTest_17 : decode cX12_readTest 17 = .ok (.iload_n 2, 1) := by decide +kernel
theorem dX12_readTest_18 : decode cX12_readTest 18 = .ok (.bipush 60, 2) := by decide +kernel
theorem dX12_readTest_20 : decode cX12_readTest 20 = .ok (.if_icmp .eq 22, 3) := by decide +kernel
theorem dX12_readTest_23 : decode cX12_readTest 23 = .ok (.iload_n 2, 1) := by decide +kernel
theorem dX12_readTest_24 : decode cX12_readTest 24 = .ok (.bipush 61, 2) := by decide +kernel
theorem dX12_readTest_26 : decode cX12_readTest 26 = .ok (.if_icmp .eq 16, 3) := by decide +kernel
theorem dX12_readTest_29 : decode cX12_readTest 29 = .ok (.iload_n 2, 1) := by decide +kernel
theorem dX12_readTest_30 : decode cX12_readTest 30 = .ok (.bipush 62, 2) := by decide +kernel
theorem dX12_readTest_32 : decode cX12_readTest 32 = .ok (.if_icmp .eq 10, 3) := by decide +kernel
theorem dX12_readTest_35 : decode cX12_readTest 35 = .ok (.aload_n 0, 1) := by decide +kernel
theorem dX12_readTest_36 : decode cX12_readTest 36 = .ok (.iconst 1, 1) := by decide +kernel
theorem dX12_readTest_37 : decode cX12_readTest 37 = .ok (.putfield 312, 3) := by decide +kernel
theorem dX12_readTest_40 : decode cX12_readTest 40 = .ok (.iconst 0, 1) := by decide +kernel
theorem dX12_readTest_41 : decode cX12_readTest 41 = .ok (.ireturn, 1) := by decide +kernel
theorem dX12_readTest_42 : decode cX12_readTest 42 = .ok (.aload_n 0, 1) := by decide +kernel
theorem dX12_readTest_43 : decode cX12_readTest 43 = .ok (.dup, 1) := by decide +kernel
theorem dX12_readTest_44 : decode cX12_readTest 44 = .ok (.getfield 292, 3) := by decide +kernel
theorem dX12_readTest_47 : decode cX12_readTest 47 = .ok (.iconst 1, 1) := by decide +kernel
theorem dX12_readTest_48 : decode cX12_readTest 48 = .ok (.iadd, 1) := by decide +kernel
theorem dX12_readTest_49 : decode cX12_readTest 49 = .ok (.putfield 292, 3) := by decide +kernel
theorem dX12_readTest_52 : decode cX12_readTest 52 = .ok (.aload_n 0, 1) := by decide +kernel
theorem dX12_readTest_53 : decode cX12_readTest 53 = .ok (.invokevirtual 318, 3) := by decide +kernel
theorem dX12_readTest_56 : decode cX12_readTest 56 = .ok (.istore_n 3, 1) := by decide +kernel
theorem dX12_readTest_57 : decode cX12_readTest 57 = .ok (.iload_n 2, 1) := by decide +kernel
theorem dX12_readTest_58 : decode cX12_readTest 58 = .ok (.bipush 60, 2) := by decide +kernel
theorem dX12_readTest_60 : decode cX12_readTest 60 = .ok (.if_icmp .ne 16, 3) := by decide +kernel
theorem dX12_readTest_63 : decode cX12_readTest 63 = .ok (.iload_n 1, 1) := by decide +kernel
theorem dX12_readTest_64 : decode cX12_readTest 64 = .ok (.iload_n 3, 1) := by decide +kernel
theorem dX12_readTest_65 : decode cX12_readTest 65 = .ok (.if_icmp .ge 7, 3) := by decide +kernel
theorem dX12_readTest_68 : decode cX12_readTest 68 = .ok (.iconst 1, 1) := by decide +kernel
theorem dX12_readTest_69 : decode cX12_readTest 69 = .ok (.goto 36, 3) := by decide +kernel
theorem dX12_readTest_72 : decode cX12_readTest 72 = .ok (.iconst 0, 1) := by decide +kernel
theorem dX12_readTest_73 : decode cX12_readTest 73 = .ok (.goto 32, 3) := by decide +kernel
theorem dX12_readTest_76 : decode cX12_readTest 76 = .ok (.iload_n 2, 1) := by decide +kernel
theorem dX12_readTest_77 : decode cX12_readTest 77 = .ok (.bipush 61, 2) := by decide +kernel
theorem dX12_readTest_79 : decode cX12_readTest 79 = .ok (.if_icmp .ne 16, 3) := by decide +kernel
theorem dX12_readTest_82 : decode cX12_readTest 82 = .ok (.iload_n 1, 1) := by decide +kernel
theorem dX12_readTest_83 : decode cX12_readTest 83 = .ok (.iload_n 3, 1) := by decide +kernel
theorem dX12_readTest_84 : decode cX12_readTest 84 = .ok (.if_icmp .ne 7, 3) := by decide +kernel
theorem dX12_readTest_87 : decode cX12_readTest 87 = .ok (.iconst 1, 1) := by decide +kernel
theorem dX12_readTest_88 : decode cX12_readTest 88 = .ok (.goto 17, 3) := by decide +kernel
theorem dX12_readTest_91 : decode cX12_readTest 91 = .ok (.iconst 0, 1) := by decide +kernel
theorem dX12_readTest_92 : decode cX12_readTest 92 = .ok (.goto 13, 3) := by decide +kernel
theorem dX12_readTest_95 : decode cX12_readTest 95 = .ok (.iload_n 1, 1) := by decide +kernel
theorem dX12_readTest_96 : decode cX12_readTest 96 = .ok (.iload_n 3, 1) := by decide +kernel
theorem dX12_readTest_97 : decode cX12_readTest 97 = .ok (.if_icmp .le 7, 3) := by decide +kernel
theorem dX12_readTest_100 : decode cX12_readTest 100 = .ok (.iconst 1, 1) := by decide +kernel
theorem dX12_readTest_101 : decode cX12_readTest 101 = .ok (.goto 4, 3) := by decide +kernel
theorem dX12_readTest_104 : decode cX12_readTest 104 = .ok (.iconst 0, 1) := by decide +kernel
theorem dX12_readTest_105 : decode cX12_readTest 105 = .ok (.ireturn, 1) := by decide +kernel
theorem dX12_topSign_0 : decode cX12_topSign 0 = .ok (.aload_n 0, 1) := by decide +kernel
theorem dX12_topSign_1 : decode cX12_topSign 1 = .ok (.getfield 321, 3) := by decide +kernel
theorem dX12_topSign_4 : decode cX12_topSign 4 = .ok (.ifCond .ne 7, 3) := by decide +kernel
theorem dX12_topSign_7 : decode cX12_topSign 7 = .ok (.iconst 0, 1) := by decide +kernel
theorem dX12_topSign_8 : decode cX12_topSign 8 = .ok (.goto 14, 3) := by decide +kernel
theorem dX12_topSign_11 : decode cX12_topSign 11 = .ok (.aload_n 0, 1) := by decide +kernel
theorem dX12_topSign_12 : decode cX12_topSign 12 = .ok (.getfield 53, 3) := by decide +kernel
theorem dX12_topSign_15 : decode cX12_topSign 15 = .ok (.aload_n 0, 1) := by decide +kernel
theorem dX12_topSign_16 : decode cX12_topSign 16 = .ok (.getfield 321, 3) := by decide +kernel
theorem dX12_topSign_19 : decode cX12_topSign 19 = .ok (.iconst 1, 1) := by decide +kernel
theorem dX12_topSign_20 : decode cX12_topSign 20 = .ok (.isub, 1) := by decide +kernel
theorem dX12_topSign_21 : decode cX12_topSign 21 = .ok (.iaload, 1) := by decide +kernel
theorem dX12_topSign_22 : decode cX12_topSign 22 = .ok (.ireturn, 1) := by decide +kernel
theorem dX12_partEnds_0 : decode cX12_partEnds 0 = .ok (.aload_n 0, 1) := by decide +kernel
theorem dX12_partEnds_1 : decode cX12_partEnds 1 = .ok (.invokevirtual 324, 3) := by decide +kernel
theorem dX12_partEnds_4 : decode cX12_partEnds 4 = .ok (.bipush 33, 2) := by decide +kernel
theorem dX12_partEnds_6 : decode cX12_partEnds 6 = .ok (.if_icmp .ne 56, 3) := by decide +kernel
theorem dX12_partEnds_9 : decode cX12_partEnds 9 = .ok (.aload_n 0, 1) := by decide +kernel
theorem dX12_partEnds_10 : decode cX12_partEnds 10 = .ok (.getfield 56, 3) := by decide +kernel
theorem dX12_partEnds_13 : decode cX12_partEnds 13 = .ok (.aload_n 0, 1) := by decide +kernel
theorem dX12_partEnds_14 : decode cX12_partEnds 14 = .ok (.getfield 327, 3) := by decide +kernel
theorem dX12_partEnds_17 : decode cX12_partEnds 17 = .ok (.iconst 1, 1) := by decide +kernel
theorem dX12_partEnds_18 : decode cX12_partEnds 18 = .ok (.isub, 1) := by decide +kernel
theorem dX12_partEnds_19 : decode cX12_partEnds 19 = .ok (.aload_n 0, 1) := by decide +kernel
theorem dX12_partEnds_20 : decode cX12_partEnds 20 = .ok (.getfield 56, 3) := by decide +kernel
theorem dX12_partEnds_23 : decode cX12_partEnds 23 = .ok (.aload_n 0, 1) := by decide +kernel
theorem dX12_partEnds_24 : decode cX12_partEnds 24 = .ok (.getfield 327, 3) := by decide +kernel
theorem dX12_partEnds_27 : decode cX12_partEnds 27 = .ok (.iconst 1, 1) := by decide +kernel
theorem dX12_partEnds_28 : decode cX12_partEnds 28 = .ok (.isub, 1) := by decide +kernel
theorem dX12_partEnds_29 : decode cX12_partEnds 29 = .ok (.baload, 1) := by decide +kernel
theorem dX12_partEnds_30 : decode cX12_partEnds 30 = .ok (.ifCond .ne 7, 3) := by decide +kernel
theorem dX12_partEnds_33 : decode cX12_partEnds 33 = .ok (.iconst 1, 1) := by decide +kernel
theorem dX12_partEnds_34 : decode cX12_partEnds 34 = .ok (.goto 4, 3) := by decide +kernel
theorem dX12_partEnds_37 : decode cX12_partEnds 37 = .ok (.iconst 0, 1) := by decide +kernel
theorem dX12_partEnds_38 : decode cX12_partEnds 38 = .ok (.bastore, 1) := by decide +kernel
theorem dX12_partEnds_39 : decode cX12_partEnds 39 = .ok (.aload_n 0, 1) := by decide +kernel
theorem dX12_partEnds_40 : decode cX12_partEnds 40 = .ok (.dup, 1) := by decide +kernel
theorem dX12_partEnds_41 : decode cX12_partEnds 41 = .ok (.getfield 321, 3) := by decide +kernel
theorem dX12_partEnds_44 : decode cX12_partEnds 44 = .ok (.iconst 1, 1) := by decide +kernel
theorem dX12_partEnds_45 : decode cX12_partEnds 45 = .ok (.isub, 1) := by decide +kernel
theorem dX12_partEnds_46 : decode cX12_partEnds 46 = .ok (.putfield 321, 3) := by decide +kernel
theorem dX12_partEnds_49 : decode cX12_partEnds 49 = .ok (.aload_n 0, 1) := by decide +kernel
theorem dX12_partEnds_50 : decode cX12_partEnds 50 = .ok (.dup, 1) := by decide +kernel
theorem dX12_partEnds_51 : decode cX12_partEnds 51 = .ok (.getfield 330, 3) := by decide +kernel
theorem dX12_partEnds_54 : decode cX12_partEnds 54 = .ok (.iconst 1, 1) := by decide +kernel
theorem dX12_partEnds_55 : decode cX12_partEnds 55 = .ok (.isub, 1) := by decide +kernel
theorem dX12_partEnds_56 : decode cX12_partEnds 56 = .ok (.putfield 330, 3) := by decide +kernel
theorem dX12_partEnds_59 : decode cX12_partEnds 59 = .ok (.goto (-59), 3) := by decide +kernel
theorem dX12_partEnds_62 : decode cX12_partEnds 62 = .ok (.aload_n 0, 1) := by decide +kernel
theorem dX12_partEnds_63 : decode cX12_partEnds 63 = .ok (.invokevirtual 324, 3) := by decide +kernel
theorem dX12_partEnds_66 : decode cX12_partEnds 66 = .ok (.bipush 38, 2) := by decide +kernel
theorem dX12_partEnds_68 : decode cX12_partEnds 68 = .ok (.if_icmp .ne 68, 3) := by decide +kernel
theorem dX12_partEnds_71 : decode cX12_partEnds 71 = .ok (.aload_n 0, 1) := by decide +kernel
theorem dX12_partEnds_72 : decode cX12_partEnds 72 = .ok (.dup, 1) := by decide +kernel
theorem dX12_partEnds_73 : decode cX12_partEnds 73 = .ok (.getfield 327, 3) := by decide +kernel
theorem dX12_partEnds_76 : decode cX12_partEnds 76 = .ok (.iconst 1, 1) := by decide +kernel
theorem dX12_partEnds_77 : decode cX12_partEnds 77 = .ok (.isub, 1) := by decide +kernel
theorem dX12_partEnds_78 : decode cX12_partEnds 78 = .ok (.putfield 327, 3) := by decide +kernel
theorem dX12_partEnds_81 : decode cX12_partEnds 81 = .ok (.aload_n 0, 1) := by decide +kernel
theorem dX12_partEnds_82 : decode cX12_partEnds 82 = .ok (.getfield 56, 3) := by decide +kernel
theorem dX12_partEnds_85 : decode cX12_partEnds 85 = .ok (.aload_n 0, 1) := by decide +kernel
theorem dX12_partEnds_86 : decode cX12_partEnds 86 = .ok (.getfield 327, 3) := by decide +kernel
theorem dX12_partEnds_89 : decode cX12_partEnds 89 = .ok (.iconst 1, 1) := by decide +kernel
theorem dX12_partEnds_90 : decode cX12_partEnds 90 = .ok (.isub, 1) := by decide +kernel
theorem dX12_partEnds_91 : decode cX12_partEnds 91 = .ok (.aload_n 0, 1) := by decide +kernel
theorem dX12_partEnds_92 : decode cX12_partEnds 92 = .ok (.getfield 56, 3) := by decide +kernel
theorem dX12_partEnds_95 : decode cX12_partEnds 95 = .ok (.aload_n 0, 1) := by decide +kernel
theorem dX12_partEnds_96 : decode cX12_partEnds 96 = .ok (.getfield 327, 3) := by decide +kernel
theorem dX12_partEnds_99 : decode cX12_partEnds 99 = .ok (.iconst 1, 1) := by decide +kernel
theorem dX12_partEnds_100 : decode cX12_partEnds 100 = .ok (.isub, 1) := by decide +kernel
theorem dX12_partEnds_101 : decode cX12_partEnds 101 = .ok (.baload, 1) := by decide +kernel
theorem dX12_partEnds_102 : decode cX12_partEnds 102 = .ok (.ifCond .eq 19, 3) := by decide +kernel
theorem dX12_partEnds_105 : decode cX12_partEnds 105 = .ok (.aload_n 0, 1) := by decide +kernel
theorem dX12_partEnds_106 : decode cX12_partEnds 106 = .ok (.getfield 56, 3) := by decide +kernel
theorem dX12_partEnds_109 : decode cX12_partEnds 109 = .ok (.aload_n 0, 1) := by decide +kernel
theorem dX12_partEnds_110 : decode cX12_partEnds 110 = .ok (.getfield 327, 3) := by decide +kernel
theorem dX12_partEnds_113 : decode cX12_partEnds 113 = .ok (.baload, 1) := by decide +kernel
theorem dX12_partEnds_114 : decode cX12_partEnds 114 = .ok (.ifCond .eq 7, 3) := by decide +kernel
theorem dX12_partEnds_117 : decode cX12_partEnds 117 = .ok (.iconst 1, 1) := by decide +kernel
theorem dX12_partEnds_118 : decode cX12_partEnds 118 = .ok (.goto 4, 3) := by decide +kernel
theorem dX12_partEnds_121 : decode cX12_partEnds 121 = .ok (.iconst 0, 1) := by decide +kernel
theorem dX12_partEnds_122 : decode cX12_partEnds 122 = .ok (.bastore, 1) := by decide +kernel
theorem dX12_partEnds_123 : decode cX12_partEnds 123 = .ok (.aload_n 0, 1) := by decide +kernel
theorem dX12_partEnds_124 : decode cX12_partEnds 124 = .ok (.dup, 1) := by decide +kernel
theorem dX12_partEnds_125 : decode cX12_partEnds 125 = .ok (.getfield 321, 3) := by decide +kernel
theorem dX12_partEnds_128 : decode cX12_partEnds 128 = .ok (.iconst 1, 1) := by decide +kernel
theorem dX12_partEnds_129 : decode cX12_partEnds 129 = .ok (.isub, 1) := by decide +kernel
theorem dX12_partEnds_130 : decode cX12_partEnds 130 = .ok (.putfield 321, 3) := by decide +kernel
theorem dX12_partEnds_133 : decode cX12_partEnds 133 = .ok (.goto (-71), 3) := by decide +kernel
theorem dX12_partEnds_136 : decode cX12_partEnds 136 = .ok (.return_, 1) := by decide +kernel
theorem dX12_orsEnd_0 : decode cX12_orsEnd 0 = .ok (.aload_n 0, 1) := by decide +kernel
theorem dX12_orsEnd_1 : decode cX12_orsEnd 1 = .ok (.invokevirtual 324, 3) := by decide +kernel
theorem dX12_orsEnd_4 : decode cX12_orsEnd 4 = .ok (.bipush 124, 2) := by decide +kernel
theorem dX12_orsEnd_6 : decode cX12_orsEnd 6 = .ok (.if_icmp .ne 68, 3) := by decide +kernel
theorem dX12_orsEnd_9 : decode cX12_orsEnd 9 = .ok (.aload_n 0, 1) := by decide +kernel
theorem dX12_orsEnd_10 : decode cX12_orsEnd 10 = .ok (.dup, 1) := by decide +kernel
theorem dX12_orsEnd_11 : decode cX12_orsEnd 11 = .ok (.getfield 327, 3) := by decide +kernel
theorem dX12_orsEnd_14 : decode cX12_orsEnd 14 = .ok (.iconst 1, 1) := by decide +kernel
theorem dX12_orsEnd_15 : decode cX12_orsEnd 15 = .ok (.isub, 1) := by decide +kernel
theorem dX12_orsEnd_16 : decode cX12_orsEnd 16 = .ok (.putfield 327, 3) := by decide +kernel
theorem dX12_orsEnd_19 : decode cX12_orsEnd 19 = .ok (.aload_n 0, 1) := by decide +kernel
theorem dX12_orsEnd_20 : decode cX12_orsEnd 20 = .ok (.getfield 56, 3) := by decide +kernel
theorem dX12_orsEnd_23 : decode cX12_orsEnd 23 = .ok (.aload_n 0, 1) := by decide +kernel
theorem dX12_orsEnd_24 : decode cX12_orsEnd 24 = .ok (.getfield 327, 3) := by decide +kernel
theorem dX12_orsEnd_27 : decode cX12_orsEnd 27 = .ok (.iconst 1, 1) := by decide +kernel
theorem dX12_orsEnd_28 : decode cX12_orsEnd 28 = .ok (.isub, 1) := by decide +kernel
theorem dX12_orsEnd_29 : decode cX12_orsEnd 29 = .ok (.aload_n 0, 1) := by decide +kernel
theorem dX12_orsEnd_30 : decode cX12_orsEnd 30 = .ok (.getfield 56, 3) := by decide +kernel
theorem dX12_orsEnd_33 : decode cX12_orsEnd 33 = .ok (.aload_n 0, 1) := by decide +kernel
theorem dX12_orsEnd_34 : decode cX12_orsEnd 34 = .ok (.getfield 327, 3) := by decide +kernel
theorem dX12_orsEnd_37 : decode cX12_orsEnd 37 = .ok (.iconst 1, 1) := by decide +kernel
theorem dX12_orsEnd_38 : decode cX12_orsEnd 38 = .ok (.isub, 1) := by decide +kernel
theorem dX12_orsEnd_39 : decode cX12_orsEnd 39 = .ok (.baload, 1) := by decide +kernel
theorem dX12_orsEnd_40 : decode cX12_orsEnd 40 = .ok (.ifCond .ne 15, 3) := by decide +kernel
theorem dX12_orsEnd_43 : decode cX12_orsEnd 43 = .ok (.aload_n 0, 1) := by decide +kernel
theorem dX12_orsEnd_44 : decode cX12_orsEnd 44 = .ok (.getfield 56, 3) := by decide +kernel
theorem dX12_orsEnd_47 : decode cX12_orsEnd 47 = .ok (.aload_n 0, 1) := by decide +kernel
theorem dX12_orsEnd_48 : decode cX12_orsEnd 48 = .ok (.getfield 327, 3) := by decide +kernel
theorem dX12_orsEnd_51 : decode cX12_orsEnd 51 = .ok (.baload, 1) := by decide +kernel
theorem dX12_orsEnd_52 : decode cX12_orsEnd 52 = .ok (.ifCond .eq 7, 3) := by decide +kernel
theorem dX12_orsEnd_55 : decode cX12_orsEnd 55 = .ok (.iconst 1, 1) := by decide +kernel
theorem dX12_orsEnd_56 : decode cX12_orsEnd 56 = .ok (.goto 4, 3) := by decide +kernel
theorem dX12_orsEnd_59 : decode cX12_orsEnd 59 = .ok (.iconst 0, 1) := by decide +kernel
theorem dX12_orsEnd_60 : decode cX12_orsEnd 60 = .ok (.bastore, 1) := by decide +kernel
theorem dX12_orsEnd_61 : decode cX12_orsEnd 61 = .ok (.aload_n 0, 1) := by decide +kernel
theorem dX12_orsEnd_62 : decode cX12_orsEnd 62 = .ok (.dup, 1) := by decide +kernel
theorem dX12_orsEnd_63 : decode cX12_orsEnd 63 = .ok (.getfield 321, 3) := by decide +kernel
theorem dX12_orsEnd_66 : decode cX12_orsEnd 66 = .ok (.iconst 1, 1) := by decide +kernel
theorem dX12_orsEnd_67 : decode cX12_orsEnd 67 = .ok (.isub, 1) := by decide +kernel
theorem dX12_orsEnd_68 : decode cX12_orsEnd 68 = .ok (.putfield 321, 3) := by decide +kernel
theorem dX12_orsEnd_71 : decode cX12_orsEnd 71 = .ok (.goto (-71), 3) := by decide +kernel
theorem dX12_orsEnd_74 : decode cX12_orsEnd 74 = .ok (.return_, 1) := by decide +kernel
theorem dX12_opens_0 : decode cX12_opens 0 = .ok (.aload_n 0, 1) := by decide +kernel
theorem dX12_opens_1 : decode cX12_opens 1 = .ok (.getfield 330, 3) := by decide +kernel
theorem dX12_opens_4 : decode cX12_opens 4 = .ok (.iconst 5, 1) := by decide +kernel
theorem dX12_opens_5 : decode cX12_opens 5 = .ok (.if_icmp .ne 9, 3) := by decide +kernel
theorem dX12_opens_8 : decode cX12_opens 8 = .ok (.aload_n 0, 1) := by decide +kernel
theorem dX12_opens_9 : decode cX12_opens 9 = .ok (.iconst 1, 1) := by decide +kernel
theorem dX12_opens_10 : decode cX12_opens 10 = .ok (.putfield 312, 3) := by decide +kernel
theorem dX12_opens_13 : decode cX12_opens 13 = .ok (.return_, 1) := by decide +kernel
theorem dX12_opens_14 : decode cX12_opens 14 = .ok (.aload_n 0, 1) := by decide +kernel
theorem dX12_opens_15 : decode cX12_opens 15 = .ok (.dup, 1) := by decide +kernel
theorem dX12_opens_16 : decode cX12_opens 16 = .ok (.getfield 330, 3) := by decide +kernel
theorem dX12_opens_19 : decode cX12_opens 19 = .ok (.iconst 1, 1) := by decide +kernel
theorem dX12_opens_20 : decode cX12_opens 20 = .ok (.iadd, 1) := by decide +kernel
theorem dX12_opens_21 : decode cX12_opens 21 = .ok (.putfield 330, 3) := by decide +kernel
theorem dX12_opens_24 : decode cX12_opens 24 = .ok (.aload_n 0, 1) := by decide +kernel
theorem dX12_opens_25 : decode cX12_opens 25 = .ok (.getfield 53, 3) := by decide +kernel
theorem dX12_opens_28 : decode cX12_opens 28 = .ok (.aload_n 0, 1) := by decide +kernel
theorem dX12_opens_29 : decode cX12_opens 29 = .ok (.getfield 321, 3) := by decide +kernel
theorem dX12_opens_32 : decode cX12_opens 32 = .ok (.iload_n 1, 1) := by decide +kernel
theorem dX12_opens_33 : decode cX12_opens 33 = .ok (.iastore, 1) := by decide +kernel
theorem dX12_opens_34 : decode cX12_opens 34 = .ok (.aload_n 0, 1) := by decide +kernel
theorem dX12_opens_35 : decode cX12_opens 35 = .ok (.dup, 1) := by decide +kernel
theorem dX12_opens_36 : decode cX12_opens 36 = .ok (.getfield 321, 3) := by decide +kernel
theorem dX12_opens_39 : decode cX12_opens 39 = .ok (.iconst 1, 1) := by decide +kernel
theorem dX12_opens_40 : decode cX12_opens 40 = .ok (.iadd, 1) := by decide +kernel
theorem dX12_opens_41 : decode cX12_opens 41 = .ok (.putfield 321, 3) := by decide +kernel
theorem dX12_opens_44 : decode cX12_opens 44 = .ok (.aload_n 0, 1) := by decide +kernel
theorem dX12_opens_45 : decode cX12_opens 45 = .ok (.dup, 1) := by decide +kernel
theorem dX12_opens_46 : decode cX12_opens 46 = .ok (.getfield 292, 3) := by decide +kernel
theorem dX12_opens_49 : decode cX12_opens 49 = .ok (.iconst 1, 1) := by decide +kernel
theorem dX12_opens_50 : decode cX12_opens 50 = .ok (.iadd, 1) := by decide +kernel
theorem dX12_opens_51 : decode cX12_opens 51 = .ok (.putfield 292, 3) := by decide +kernel
theorem dX12_opens_54 : decode cX12_opens 54 = .ok (.return_, 1) := by decide +kernel
theorem dX12_readRule_0 : decode cX12_readRule 0 = .ok (.aload_n 0, 1) := by decide +kernel
theorem dX12_readRule_1 : decode cX12_readRule 1 = .ok (.iconst 0, 1) := by decide +kernel
theorem dX12_readRule_2 : decode cX12_readRule 2 = .ok (.putfield 321, 3) := by decide +kernel
theorem dX12_readRule_5 : decode cX12_readRule 5 = .ok (.aload_n 0, 1) := by decide +kernel
theorem dX12_readRule_6 : decode cX12_readRule 6 = .ok (.iconst 0, 1) := by decide +kernel
theorem dX12_readRule_7 : decode cX12_readRule 7 = .ok (.putfield 327, 3) := by decide +kernel
theorem dX12_readRule_10 : decode cX12_readRule 10 = .ok (.aload_n 0, 1) := by decide +kernel
theorem dX12_readRule_11 : decode cX12_readRule 11 = .ok (.iconst 0, 1) := by decide +kernel
theorem dX12_readRule_12 : decode cX12_readRule 12 = .ok (.putfield 330, 3) := by decide +kernel
theorem dX12_readRule_15 : decode cX12_readRule 15 = .ok (.iconst 1, 1) := by decide +kernel
theorem dX12_readRule_16 : decode cX12_readRule 16 = .ok (.istore_n 1, 1) := by decide +kernel
theorem dX12_readRule_17 : decode cX12_readRule 17 = .ok (.aload_n 0, 1) := by decide +kernel
theorem dX12_readRule_18 : decode cX12_readRule 18 = .ok (.getfield 312, 3) := by decide +kernel
theorem dX12_readRule_21 : decode cX12_readRule 21 = .ok (.ifCond .ne 219, 3) := by decide +kernel
theorem dX12_readRule_24 : decode cX12_readRule 24 = .ok (.iload_n 1, 1) := by decide +kernel
theorem dX12_readRule_25 : decode cX12_readRule 25 = .ok (.ifCond .ne 14, 3) := by decide +kernel
theorem dX12_readRule_28 : decode cX12_readRule 28 = .ok (.aload_n 0, 1) := by decide +kernel
theorem dX12_readRule_29 : decode cX12_readRule 29 = .ok (.getfield 292, 3) := by decide +kernel
theorem dX12_readRule_32 : decode cX12_readRule 32 = .ok (.aload_n 0, 1) := by decide +kernel
theorem dX12_readRule_33 : decode cX12_readRule 33 = .ok (.getfield 295, 3) := by decide +kernel
theorem dX12_readRule_36 : decode cX12_readRule 36 = .ok (.if_icmp .ge 204, 3) := by decide +kernel
theorem dX12_readRule_39 : decode cX12_readRule 39 = .ok (.aload_n 0, 1) := by decide +kernel
theorem dX12_readRule_40 : decode cX12_readRule 40 = .ok (.invokevirtual 305, 3) := by decide +kernel
theorem dX12_readRule_43 : decode cX12_readRule 43 = .ok (.istore_n 2, 1) := by decide +kernel
theorem dX12_readRule_44 : decode cX12_readRule 44 = .ok (.iload_n 1, 1) := by decide +kernel
theorem dX12_readRule_45 : decode cX12_readRule 45 = .ok (.ifCond .eq 23, 3) := by decide +kernel
theorem dX12_readRule_48 : decode cX12_readRule 48 = .ok (.iload_n 2, 1) := by decide +kernel
theorem dX12_readRule_49 : decode cX12_readRule 49 = .ok (.bipush 33, 2) := by decide +kernel
theorem dX12_readRule_51 : decode cX12_readRule 51 = .ok (.if_icmp .eq 9, 3) := by decide +kernel
theorem dX12_readRule_54 : decode cX12_readRule 54 = .ok (.iload_n 2, 1) := by decide +kernel
theorem dX12_readRule_55 : decode cX12_readRule 55 = .ok (.bipush 40, 2) := by decide +kernel
theorem dX12_readRule_57 : decode cX12_readRule 57 = .ok (.if_icmp .ne 11, 3) := by decide +kernel
theorem dX12_readRule_60 : decode cX12_readRule 60 = .ok (.aload_n 0, 1) := by decide +kernel
theorem dX12_readRule_61 : decode cX12_readRule 61 = .ok (.iload_n 2, 1) := by decide +kernel
theorem dX12_readRule_62 : decode cX12_readRule 62 = .ok (.invokevirtual 333, 3) := by decide +kernel
theorem dX12_readRule_65 : decode cX12_readRule 65 = .ok (.goto 172, 3) := by decide +kernel
theorem dX12_readRule_68 : decode cX12_readRule 68 = .ok (.iload_n 1, 1) := by decide +kernel
theorem dX12_readRule_69 : decode cX12_readRule 69 = .ok (.ifCond .eq 42, 3) := by decide +kernel
theorem dX12_readRule_72 : decode cX12_readRule 72 = .ok (.aload_n 0, 1) := by decide +kernel
theorem dX12_readRule_73 : decode cX12_readRule 73 = .ok (.getfield 56, 3) := by decide +kernel
theorem dX12_readRule_76 : decode cX12_readRule 76 = .ok (.aload_n 0, 1) := by decide +kernel
theorem dX12_readRule_77 : decode cX12_readRule 77 = .ok (.getfield 327, 3) := by decide +kernel
theorem dX12_readRule_80 : decode cX12_readRule 80 = .ok (.aload_n 0, 1) := by decide +kernel
theorem dX12_readRule_81 : decode cX12_readRule 81 = .ok (.invokevirtual 337, 3) := by decide +kernel
theorem dX12_readRule_84 : decode cX12_readRule 84 = .ok (.bastore, 1) := by decide +kernel
theorem dX12_readRule_85 : decode cX12_readRule 85 = .ok (.aload_n 0, 1) := by decide +kernel
theorem dX12_readRule_86 : decode cX12_readRule 86 = .ok (.dup, 1) := by decide +kernel
theorem dX12_readRule_87 : decode cX12_readRule 87 = .ok (.getfield 327, 3) := by decide +kernel
theorem dX12_readRule_90 : decode cX12_readRule 90 = .ok (.iconst 1, 1) := by decide +kernel
theorem dX12_readRule_91 : decode cX12_readRule 91 = .ok (.iadd, 1) := by decide +kernel
theorem dX12_readRule_92 : decode cX12_readRule 92 = .ok (.putfield 327, 3) := by decide +kernel
theorem dX12_readRule_95 : decode cX12_readRule 95 = .ok (.iconst 0, 1) := by decide +kernel
theorem dX12_readRule_96 : decode cX12_readRule 96 = .ok (.istore_n 1, 1) := by decide +kernel
theorem dX12_readRule_97 : decode cX12_readRule 97 = .ok (.aload_n 0, 1) := by decide +kernel
theorem dX12_readRule_98 : decode cX12_readRule 98 = .ok (.getfield 312, 3) := by decide +kernel
theorem dX12_readRule_101 : decode cX12_readRule 101 = .ok (.ifCond .ne 136, 3) := by decide +kernel
theorem dX12_readRule_104 : decode cX12_readRule 104 = .ok (.aload_n 0, 1) := by decide +kernel
theorem dX12_readRule_105 : decode cX12_readRule 105 = .ok (.invokevirtual 341, 3) := by decide +kernel
theorem dX12_readRule_108 : decode cX12_readRule 108 = .ok (.goto 129, 3) := by decide +kernel
theorem dX12_readRule_111 : decode cX12_readRule 111 = .ok (.iload_n 2, 1) := by decide +kernel
theorem dX12_readRule_112 : decode cX12_readRule 112 = .ok (.bipush 38, 2) := by decide +kernel
theorem dX12_readRule_114 : decode cX12_readRule 114 = .ok (.if_icmp .eq 9, 3) := by decide +kernel
theorem dX12_readRule_117 : decode cX12_readRule 117 = .ok (.iload_n 2, 1) := by decide +kernel
theorem dX12_readRule_118 : decode cX12_readRule 118 = .ok (.bipush 124, 2) := by decide +kernel
theorem dX12_readRule_120 : decode cX12_readRule 120 = .ok (.if_icmp .ne 48, 3) := by decide +kernel
theorem dX12_readRule_123 : decode cX12_readRule 123 = .ok (.iload_n 2, 1) := by decide +kernel
theorem dX12_readRule_124 : decode cX12_readRule 124 = .ok (.bipush 124, 2) := by decide +kernel
theorem dX12_readRule_126 : decode cX12_readRule 126 = .ok (.if_icmp .ne 7, 3) := by decide +kernel
theorem dX12_readRule_129 : decode cX12_readRule 129 = .ok (.aload_n 0, 1) := by decide +kernel
theorem dX12_readRule_130 : decode cX12_readRule 130 = .ok (.invokevirtual 344, 3) := by decide +kernel
theorem dX12_readRule_133 : decode cX12_readRule 133 = .ok (.aload_n 0, 1) := by decide +kernel
theorem dX12_readRule_134 : decode cX12_readRule 134 = .ok (.getfield 53, 3) := by decide +kernel
theorem dX12_readRule_137 : decode cX12_readRule 137 = .ok (.aload_n 0, 1) := by decide +kernel
theorem dX12_readRule_138 : decode cX12_readRule 138 = .ok (.getfield 321, 3) := by decide +kernel
theorem dX12_readRule_141 : decode cX12_readRule 141 = .ok (.iload_n 2, 1) := by decide +kernel
theorem dX12_readRule_142 : decode cX12_readRule 142 = .ok (.iastore, 1) := by decide +kernel
theorem dX12_readRule_143 : decode cX12_readRule 143 = .ok (.aload_n 0, 1) := by decide +kernel
theorem dX12_readRule_144 : decode cX12_readRule 144 = .ok (.dup, 1) := by decide +kernel
theorem dX12_readRule_145 : decode cX12_readRule 145 = .ok (.getfield 321, 3) := by decide +kernel
theorem dX12_readRule_148 : decode cX12_readRule 148 = .ok (.iconst 1, 1) := by decide +kernel
theorem dX12_readRule_149 : decode cX12_readRule 149 = .ok (.iadd, 1) := by decide +kernel
theorem dX12_readRule_150 : decode cX12_readRule 150 = .ok (.putfield 321, 3) := by decide +kernel
theorem dX12_readRule_153 : decode cX12_readRule 153 = .ok (.aload_n 0, 1) := by decide +kernel
theorem dX12_readRule_154 : decode cX12_readRule 154 = .ok (.dup, 1) := by decide +kernel
theorem dX12_readRule_155 : decode cX12_readRule 155 = .ok (.getfield 292, 3) := by decide +kernel
theorem dX12_readRule_158 : decode cX12_readRule 158 = .ok (.iconst 1, 1) := by decide +kernel
theorem dX12_readRule_159 : decode cX12_readRule 159 = .ok (.iadd, 1) := by decide +kernel
theorem dX12_readRule_160 : decode cX12_readRule 160 = .ok (.putfield 292, 3) := by decide +kernel
theorem dX12_readRule_163 : decode cX12_readRule 163 = .ok (.iconst 1, 1) := by decide +kernel
theorem dX12_readRule_164 : decode cX12_readRule 164 = .ok (.istore_n 1, 1) := by decide +kernel
theorem dX12_readRule_165 : decode cX12_readRule 165 = .ok (.goto 72, 3) := by decide +kernel
theorem dX12_readRule_168 : decode cX12_readRule 168 = .ok (.aload_n 0, 1) := by decide +kernel
theorem dX12_readRule_169 : decode cX12_readRule 169 = .ok (.invokevirtual 344, 3) := by decide +kernel
theorem dX12_readRule_172 : decode cX12_readRule 172 = .ok (.aload_n 0, 1) := by decide +kernel
theorem dX12_readRule_173 : decode cX12_readRule 173 = .ok (.iload_n 2, 1) := by decide +kernel
theorem dX12_readRule_174 : decode cX12_readRule 174 = .ok (.bipush 41, 2) := by decide +kernel
theorem dX12_readRule_176 : decode cX12_readRule 176 = .ok (.if_icmp .ne 12, 3) := by decide +kernel
theorem dX12_readRule_179 : decode cX12_readRule 179 = .ok (.aload_n 0, 1) := by decide +kernel
theorem dX12_readRule_180 : decode cX12_readRule 180 = .ok (.invokevirtual 324, 3) := by decide +kernel
theorem dX12_readRule_183 : decode cX12_readRule 183 = .ok (.bipush 40, 2) := by decide +kernel
theorem dX12_readRule_185 : decode cX12_readRule 185 = .ok (.if_icmp .eq 7, 3) := by decide +kernel
theorem dX12_readRule_188 : decode cX12_readRule 188 = .ok (.iconst 1, 1) := by decide +kernel
theorem dX12_readRule_189 : decode cX12_readRule 189 = .ok (.goto 4, 3) := by decide +kernel
theorem dX12_readRule_192 : decode cX12_readRule 192 = .ok (.iconst 0, 1) := by decide +kernel
theorem dX12_readRule_193 : decode cX12_readRule 193 = .ok (.putfield 312, 3) := by decide +kernel
theorem dX12_readRule_196 : decode cX12_readRule 196 = .ok (.aload_n 0, 1) := by decide +kernel
theorem dX12_readRule_197 : decode cX12_readRule 197 = .ok (.getfield 312, 3) := by decide +kernel
theorem dX12_readRule_200 : decode cX12_readRule 200 = .ok (.ifCond .ne 37, 3) := by decide +kernel
theorem dX12_readRule_203 : decode cX12_readRule 203 = .ok (.aload_n 0, 1) := by decide +kernel
theorem dX12_readRule_204 : decode cX12_readRule 204 = .ok (.dup, 1) := by decide +kernel
theorem dX12_readRule_205 : decode cX12_readRule 205 = .ok (.getfield 321, 3) := by decide +kernel
theorem dX12_readRule_208 : decode cX12_readRule 208 = .ok (.iconst 1, 1) := by decide +kernel
theorem dX12_readRule_209 : decode cX12_readRule 209 = .ok (.isub, 1) := by decide +kernel
theorem dX12_readRule_210 : decode cX12_readRule 210 = .ok (.putfield 321, 3) := by decide +kernel
theorem dX12_readRule_213 : decode cX12_readRule 213 = .ok (.aload_n 0, 1) := by decide +kernel
theorem dX12_readRule_214 : decode cX12_readRule 214 = .ok (.dup, 1) := by decide +kernel
theorem dX12_readRule_215 : decode cX12_readRule 215 = .ok (.getfield 330, 3) := by decide +kernel
theorem dX12_readRule_218 : decode cX12_readRule 218 = .ok (.iconst 1, 1) := by decide +kernel
theorem dX12_readRule_219 : decode cX12_readRule 219 = .ok (.isub, 1) := by decide +kernel
theorem dX12_readRule_220 : decode cX12_readRule 220 = .ok (.putfield 330, 3) := by decide +kernel
theorem dX12_readRule_223 : decode cX12_readRule 223 = .ok (.aload_n 0, 1) := by decide +kernel
theorem dX12_readRule_224 : decode cX12_readRule 224 = .ok (.dup, 1) := by decide +kernel
theorem dX12_readRule_225 : decode cX12_readRule 225 = .ok (.getfield 292, 3) := by decide +kernel
theorem dX12_readRule_228 : decode cX12_readRule 228 = .ok (.iconst 1, 1) := by decide +kernel
theorem dX12_readRule_229 : decode cX12_readRule 229 = .ok (.iadd, 1) := by decide +kernel
theorem dX12_readRule_230 : decode cX12_readRule 230 = .ok (.putfield 292, 3) := by decide +kernel
theorem dX12_readRule_233 : decode cX12_readRule 233 = .ok (.aload_n 0, 1) := by decide +kernel
theorem dX12_readRule_234 : decode cX12_readRule 234 = .ok (.invokevirtual 341, 3) := by decide +kernel
theorem dX12_readRule_237 : decode cX12_readRule 237 = .ok (.goto (-220), 3) := by decide +kernel
theorem dX12_readRule_240 : decode cX12_readRule 240 = .ok (.aload_n 0, 1) := by decide +kernel
theorem dX12_readRule_241 : decode cX12_readRule 241 = .ok (.getfield 312, 3) := by decide +kernel
theorem dX12_readRule_244 : decode cX12_readRule 244 = .ok (.ifCond .ne 23, 3) := by decide +kernel
theorem dX12_readRule_247 : decode cX12_readRule 247 = .ok (.aload_n 0, 1) := by decide +kernel
theorem dX12_readRule_248 : decode cX12_readRule 248 = .ok (.invokevirtual 344, 3) := by decide +kernel
theorem dX12_readRule_251 : decode cX12_readRule 251 = .ok (.aload_n 0, 1) := by decide +kernel
theorem dX12_readRule_252 : decode cX12_readRule 252 = .ok (.aload_n 0, 1) := by decide +kernel
theorem dX12_readRule_253 : decode cX12_readRule 253 = .ok (.getfield 321, 3) := by decide +kernel
theorem dX12_readRule_256 : decode cX12_readRule 256 = .ok (.ifCond .le 7, 3) := by decide +kernel
theorem dX12_readRule_259 : decode cX12_readRule 259 = .ok (.iconst 1, 1) := by decide +kernel
theorem dX12_readRule_260 : decode cX12_readRule 260 = .ok (.goto 4, 3) := by decide +kernel
theorem dX12_readRule_263 : decode cX12_readRule 263 = .ok (.iconst 0, 1) := by decide +kernel
theorem dX12_readRule_264 : decode cX12_readRule 264 = .ok (.putfield 312, 3) := by decide +kernel
theorem dX12_readRule_267 : decode cX12_readRule 267 = .ok (.aload_n 0, 1) := by decide +kernel
theorem dX12_readRule_268 : decode cX12_readRule 268 = .ok (.getfield 312, 3) := by decide +kernel
theorem dX12_readRule_271 : decode cX12_readRule 271 = .ok (.ifCond .ne 16, 3) := by decide +kernel
theorem dX12_readRule_274 : decode cX12_readRule 274 = .ok (.aload_n 0, 1) := by decide +kernel
theorem dX12_readRule_275 : decode cX12_readRule 275 = .ok (.getfield 56, 3) := by decide +kernel
theorem dX12_readRule_278 : decode cX12_readRule 278 = .ok (.iconst 0, 1) := by decide +kernel
theorem dX12_readRule_279 : decode cX12_readRule 279 = .ok (.baload, 1) := by decide +kernel
theorem dX12_readRule_280 : decode cX12_readRule 280 = .ok (.ifCond .eq 7, 3) := by decide +kernel
theorem dX12_readRule_283 : decode cX12_readRule 283 = .ok (.iconst 1, 1) := by decide +kernel
theorem dX12_readRule_284 : decode cX12_readRule 284 = .ok (.goto 4, 3) := by decide +kernel
theorem dX12_readRule_287 : decode cX12_readRule 287 = .ok (.iconst 0, 1) := by decide +kernel
theorem dX12_readRule_288 : decode cX12_readRule 288 = .ok (.ireturn, 1) := by decide +kernel
theorem dX12_act_0 : decode cX12_act 0 = .ok (.iload_n 1, 1) := by decide +kernel
theorem dX12_act_1 : decode cX12_act 1 = .ok (.aload_n 0, 1) := by decide +kernel
theorem dX12_act_2 : decode cX12_act 2 = .ok (.getfield 273, 3) := by decide +kernel
theorem dX12_act_5 : decode cX12_act 5 = .ok (.if_icmp .ge 10, 3) := by decide +kernel
theorem dX12_act_8 : decode cX12_act 8 = .ok (.aload_n 0, 1) := by decide +kernel
theorem dX12_act_9 : decode cX12_act 9 = .ok (.bipush (-4), 2) := by decide +kernel
theorem dX12_act_11 : decode cX12_act 11 = .ok (.invokevirtual 269, 3) := by decide +kernel
theorem dX12_act_14 : decode cX12_act 14 = .ok (.ireturn, 1) := by decide +kernel
theorem dX12_act_15 : decode cX12_act 15 = .ok (.iload_n 1, 1) := by decide +kernel
theorem dX12_act_16 : decode cX12_act 16 = .ok (.sipush 1000, 3) := by decide +kernel
theorem dX12_act_19 : decode cX12_act 19 = .ok (.if_icmp .gt 12, 3) := by decide +kernel
theorem dX12_act_22 : decode cX12_act 22 = .ok (.aload_n 0, 1) := by decide +kernel
theorem dX12_act_23 : decode cX12_act 23 = .ok (.getfield 347, 3) := by decide +kernel
theorem dX12_act_26 : decode cX12_act 26 = .ok (.bipush 24, 2) := by decide +kernel
theorem dX12_act_28 : decode cX12_act 28 = .ok (.if_icmp .ne 10, 3) := by decide +kernel
theorem dX12_act_31 : decode cX12_act 31 = .ok (.aload_n 0, 1) := by decide +kernel
theorem dX12_act_32 : decode cX12_act 32 = .ok (.bipush (-6), 2) := by decide +kernel
theorem dX12_act_34 : decode cX12_act 34 = .ok (.invokevirtual 269, 3) := by decide +kernel
theorem dX12_act_37 : decode cX12_act 37 = .ok (.ireturn, 1) := by decide +kernel
theorem dX12_act_38 : decode cX12_act 38 = .ok (.aload_n 0, 1) := by decide +kernel
theorem dX12_act_39 : decode cX12_act 39 = .ok (.iconst 0, 1) := by decide +kernel
theorem dX12_act_40 : decode cX12_act 40 = .ok (.putfield 298, 3) := by decide +kernel
theorem dX12_act_43 : decode cX12_act 43 = .ok (.aload_n 0, 1) := by decide +kernel
theorem dX12_act_44 : decode cX12_act 44 = .ok (.aload_n 0, 1) := by decide +kernel
theorem dX12_act_45 : decode cX12_act 45 = .ok (.getfield 287, 3) := by decide +kernel
theorem dX12_act_48 : decode cX12_act 48 = .ok (.putfield 295, 3) := by decide +kernel
theorem dX12_act_51 : decode cX12_act 51 = .ok (.aload_n 0, 1) := by decide +kernel
theorem dX12_act_52 : decode cX12_act 52 = .ok (.iconst 0, 1) := by decide +kernel
theorem dX12_act_53 : decode cX12_act 53 = .ok (.putfield 287, 3) := by decide +kernel
theorem dX12_act_56 : decode cX12_act 56 = .ok (.aload_n 0, 1) := by decide +kernel
theorem dX12_act_57 : decode cX12_act 57 = .ok (.iconst 0, 1) := by decide +kernel
theorem dX12_act_58 : decode cX12_act 58 = .ok (.putfield 312, 3) := by decide +kernel
theorem dX12_act_61 : decode cX12_act 61 = .ok (.aload_n 0, 1) := by decide +kernel
theorem dX12_act_62 : decode cX12_act 62 = .ok (.iconst 0, 1) := by decide +kernel
theorem dX12_act_63 : decode cX12_act 63 = .ok (.putfield 292, 3) := by decide +kernel
theorem dX12_act_66 : decode cX12_act 66 = .ok (.aload_n 0, 1) := by decide +kernel
theorem dX12_act_67 : decode cX12_act 67 = .ok (.invokevirtual 305, 3) := by decide +kernel
theorem dX12_act_70 : decode cX12_act 70 = .ok (.bipush 65, 2) := by decide +kernel
theorem dX12_act_72 : decode cX12_act 72 = .ok (.bipush 72, 2) := by decide +kernel
theorem dX12_act_74 : decode cX12_act 74 = .ok (.invokestatic 262, 3) := by decide +kernel
theorem dX12_act_77 : decode cX12_act 77 = .ok (.ifCond .ne 6, 3) := by decide +kernel
theorem dX12_act_80 : decode cX12_act 80 = .ok (.bipush (-20), 2) := by decide +kernel
theorem dX12_act_82 : decode cX12_act 82 = .ok (.ireturn, 1) := by decide +kernel
theorem dX12_act_83 : decode cX12_act 83 = .ok (.aload_n 0, 1) := by decide +kernel
theorem dX12_act_84 : decode cX12_act 84 = .ok (.iconst 1, 1) := by decide +kernel
theorem dX12_act_85 : decode cX12_act 85 = .ok (.putfield 292, 3) := by decide +kernel
theorem dX12_act_88 : decode cX12_act 88 = .ok (.aload_n 0, 1) := by decide +kernel
theorem dX12_act_89 : decode cX12_act 89 = .ok (.invokevirtual 305, 3) := by decide +kernel
theorem dX12_act_92 : decode cX12_act 92 = .ok (.bipush 48, 2) := by decide +kernel
theorem dX12_act_94 : decode cX12_act 94 = .ok (.bipush 52, 2) := by decide +kernel
theorem dX12_act_96 : decode cX12_act 96 = .ok (.invokestatic 262, 3) := by decide +kernel
theorem dX12_act_99 : decode cX12_act 99 = .ok (.ifCond .ne 6, 3) := by decide +kernel
theorem dX12_act_102 : decode cX12_act 102 = .ok (.bipush (-21), 2) := by decide +kernel
theorem dX12_act_104 : decode cX12_act 104 = .ok (.ireturn, 1) := by decide +kernel
theorem dX12_act_105 : decode cX12_act 105 = .ok (.aload_n 0, 1) := by decide +kernel
theorem dX12_act_106 : decode cX12_act 106 = .ok (.iconst 2, 1) := by decide +kernel
theorem dX12_act_107 : decode cX12_act 107 = .ok (.putfield 292, 3) := by decide +kernel
theorem dX12_act_110 : decode cX12_act 110 = .ok (.aload_n 0, 1) := by decide +kernel
theorem dX12_act_111 : decode cX12_act 111 = .ok (.invokevirtual 305, 3) := by decide +kernel
theorem dX12_act_114 : decode cX12_act 114 = .ok (.bipush 58, 2) := by decide +kernel
theorem dX12_act_116 : decode cX12_act 116 = .ok (.if_icmp .eq 6, 3) := by decide +kernel
theorem dX12_act_119 : decode cX12_act 119 = .ok (.bipush (-22), 2) := by decide +kernel
theorem dX12_act_121 : decode cX12_act 121 = .ok (.ireturn, 1) := by decide +kernel
theorem dX12_act_122 : decode cX12_act 122 = .ok (.aload_n 0, 1) := by decide +kernel
theorem dX12_act_123 : decode cX12_act 123 = .ok (.iconst 3, 1) := by decide +kernel
theorem dX12_act_124 : decode cX12_act 124 = .ok (.putfield 292, 3) := by decide +kernel
theorem dX12_act_127 : decode cX12_act 127 = .ok (.aload_n 0, 1) := by decide +kernel
theorem dX12_act_128 : decode cX12_act 128 = .ok (.invokevirtual 350, 3) := by decide +kernel
theorem dX12_act_131 : decode cX12_act 131 = .ok (.istore_n 2, 1) := by decide +kernel
theorem dX12_act_132 : decode cX12_act 132 = .ok (.aload_n 0, 1) := by decide +kernel
theorem dX12_act_133 : decode cX12_act 133 = .ok (.getfield 312, 3) := by decide +kernel
theorem dX12_act_136 : decode cX12_act 136 = .ok (.ifCond .eq 11, 3) := by decide +kernel
theorem dX12_act_139 : decode cX12_act 139 = .ok (.bipush (-20), 2) := by decide +kernel
theorem dX12_act_141 : decode cX12_act 141 = .ok (.aload_n 0, 1) := by decide +kernel
theorem dX12_act_142 : decode cX12_act 142 = .ok (.getfield 292, 3) := by decide +kernel
theorem dX12_act_145 : decode cX12_act 145 = .ok (.isub, 1) := by decide +kernel
theorem dX12_act_146 : decode cX12_act 146 = .ok (.ireturn, 1) := by decide +kernel
theorem dX12_act_147 : decode cX12_act 147 = .ok (.iconst 0, 1) := by decide +kernel
theorem dX12_act_148 : decode cX12_act 148 = .ok (.istore_n 3, 1) := by decide +kernel
theorem dX12_act_149 : decode cX12_act 149 = .ok (.iload_n 3, 1) := by decide +kernel
theorem dX12_act_150 : decode cX12_act 150 = .ok (.aload_n 0, 1) := by decide +kernel
theorem dX12_act_151 : decode cX12_act 151 = .ok (.getfield 295, 3) := by decide +kernel
theorem dX12_act_154 : decode cX12_act 154 = .ok (.if_icmp .ge 29, 3) := by decide +kernel
theorem dX12_act_157 : decode cX12_act 157 = .ok (.aload_n 0, 1) := by decide +kernel
theorem dX12_act_158 : decode cX12_act 158 = .ok (.getfield 38, 3) := by decide +kernel
theorem dX12_act_161 : decode cX12_act 161 = .ok (.bipush 60, 2) := by decide +kernel
theorem dX12_act_163 : decode cX12_act 163 = .ok (.aload_n 0, 1) := by decide +kernel
theorem dX12_act_164 : decode cX12_act 164 = .ok (.getfield 347, 3) := by decide +kernel
theorem dX12_act_167 : decode cX12_act 167 = .ok (.imul, 1) := by decide +kernel
theorem dX12_act_168 : decode cX12_act 168 = .ok (.iload_n 3, 1) := by decide +kernel
theorem dX12_act_169 : decode cX12_act 169 = .ok (.iadd, 1) := by decide +kernel
theorem dX12_act_170 : decode cX12_act 170 = .ok (.aload_n 0, 1) := by decide +kernel
theorem dX12_act_171 : decode cX12_act 171 = .ok (.getfield 35, 3) := by decide +kernel
theorem dX12_act_174 : decode cX12_act 174 = .ok (.iload_n 3, 1) := by decide +kernel
theorem dX12_act_175 : decode cX12_act 175 = .ok (.iaload, 1) := by decide +kernel
theorem dX12_act_176 : decode cX12_act 176 = .ok (.iastore, 1) := by decide +kernel
theorem dX12_act_177 : decode cX12_act 177 = .ok (.iinc 3 1, 3) := by decide +kernel
theorem dX12_act_180 : decode cX12_act 180 = .ok (.goto (-31), 3) := by decide +kernel
theorem dX12_act_183 : decode cX12_act 183 = .ok (.aload_n 0, 1) := by decide +kernel
theorem dX12_act_184 : decode cX12_act 184 = .ok (.getfield 41, 3) := by decide +kernel
theorem dX12_act_187 : decode cX12_act 187 = .ok (.aload_n 0, 1) := by decide +kernel
theorem dX12_act_188 : decode cX12_act 188 = .ok (.getfield 347, 3) := by decide +kernel
theorem dX12_act_191 : decode cX12_act 191 = .ok (.aload_n 0, 1) := by decide +kernel
theorem dX12_act_192 : decode cX12_act 192 = .ok (.getfield 295, 3) := by decide +kernel
theorem dX12_act_195 : decode cX12_act 195 = .ok (.iastore, 1) := by decide +kernel
theorem dX12_act_196 : decode cX12_act 196 = .ok (.aload_n 0, 1) := by decide +kernel
theorem dX12_act_197 : decode cX12_act 197 = .ok (.getfield 44, 3) := by decide +kernel
theorem dX12_act_200 : decode cX12_act 200 = .ok (.aload_n 0, 1) := by decide +kernel
theorem dX12_act_201 : decode cX12_act 201 = .ok (.getfield 347, 3) := by decide +kernel
theorem dX12_act_204 : decode cX12_act 204 = .ok (.iload_n 1, 1) := by decide +kernel
theorem dX12_act_205 : decode cX12_act 205 = .ok (.iastore, 1) := by decide +kernel
theorem dX12_act_206 : decode cX12_act 206 = .ok (.aload_n 0, 1) := by decide +kernel
theorem dX12_act_207 : decode cX12_act 207 = .ok (.getfield 47, 3) := by decide +kernel
theorem dX12_act_210 : decode cX12_act 210 = .ok (.aload_n 0, 1) := by decide +kernel
theorem dX12_act_211 : decode cX12_act 211 = .ok (.getfield 347, 3) := by decide +kernel
theorem dX12_act_214 : decode cX12_act 214 = .ok (.ldc_w 353, 3) := by decide +kernel
theorem dX12_act_217 : decode cX12_act 217 = .ok (.iastore, 1) := by decide +kernel
theorem dX12_act_218 : decode cX12_act 218 = .ok (.aload_n 0, 1) := by decide +kernel
theorem dX12_act_219 : decode cX12_act 219 = .ok (.dup, 1) := by decide +kernel
theorem dX12_act_220 : decode cX12_act 220 = .ok (.getfield 347, 3) := by decide +kernel
theorem dX12_act_223 : decode cX12_act 223 = .ok (.iconst 1, 1) := by decide +kernel
theorem dX12_act_224 : decode cX12_act 224 = .ok (.iadd, 1) := by decide +kernel
theorem dX12_act_225 : decode cX12_act 225 = .ok (.putfield 347, 3) := by decide +kernel
theorem dX12_act_228 : decode cX12_act 228 = .ok (.aload_n 0, 1) := by decide +kernel
theorem dX12_act_229 : decode cX12_act 229 = .ok (.getfield 347, 3) := by decide +kernel
theorem dX12_act_232 : decode cX12_act 232 = .ok (.iconst 1, 1) := by decide +kernel
theorem dX12_act_233 : decode cX12_act 233 = .ok (.isub, 1) := by decide +kernel
theorem dX12_act_234 : decode cX12_act 234 = .ok (.ireturn, 1) := by decide +kernel
theorem dX12_strike_0 : decode cX12_strike 0 = .ok (.iload_n 1, 1) := by decide +kernel
theorem dX12_strike_1 : decode cX12_strike 1 = .ok (.iconst 0, 1) := by decide +kernel
theorem dX12_strike_2 : decode cX12_strike 2 = .ok (.aload_n 0, 1) := by decide +kernel
theorem dX12_strike_3 : decode cX12_strike 3 = .ok (.getfield 347, 3) := by decide +kernel
theorem dX12_strike_6 : decode cX12_strike 6 = .ok (.iconst 1, 1) := by decide +kernel
theorem dX12_strike_7 : decode cX12_strike 7 = .ok (.isub, 1) := by decide +kernel
theorem dX12_strike_8 : decode cX12_strike 8 = .ok (.invokestatic 262, 3) := by decide +kernel
theorem dX12_strike_11 : decode cX12_strike 11 = .ok (.ifCond .ne 9, 3) := by decide +kernel
theorem dX12_strike_14 : decode cX12_strike 14 = .ok (.aload_n 0, 1) := by decide +kernel
theorem dX12_strike_15 : decode cX12_strike 15 = .ok (.iconst (-1), 1) := by decide +kernel
theorem dX12_strike_16 : decode cX12_strike 16 = .ok (.invokevirtual 269, 3) := by decide +kernel
theorem dX12_strike_19 : decode cX12_strike 19 = .ok (.ireturn, 1) := by decide +kernel
theorem dX12_strike_20 : decode cX12_strike 20 = .ok (.aload_n 0, 1) := by decide +kernel
theorem dX12_strike_21 : decode cX12_strike 21 = .ok (.getfield 47, 3) := by decide +kernel
theorem dX12_strike_24 : decode cX12_strike 24 = .ok (.iload_n 1, 1) := by decide +kernel
theorem dX12_strike_25 : decode cX12_strike 25 = .ok (.iaload, 1) := by decide +kernel
theorem dX12_strike_26 : decode cX12_strike 26 = .ok (.ldc_w 353, 3) := by decide +kernel
theorem dX12_strike_29 : decode cX12_strike 29 = .ok (.if_icmp .ge 10, 3) := by decide +kernel
theorem dX12_strike_32 : decode cX12_strike 32 = .ok (.aload_n 0, 1) := by decide +kernel
theorem dX12_strike_33 : decode cX12_strike 33 = .ok (.bipush (-3), 2) := by decide +kernel
theorem dX12_strike_35 : decode cX12_strike 35 = .ok (.invokevirtual 269, 3) := by decide +kernel
theorem dX12_strike_38 : decode cX12_strike 38 = .ok (.ireturn, 1) := by decide +kernel
theorem dX12_strike_39 : decode cX12_strike 39 = .ok (.iload_n 2, 1) := by decide +kernel
theorem dX12_strike_40 : decode cX12_strike 40 = .ok (.aload_n 0, 1) := by decide +kernel
theorem dX12_strike_41 : decode cX12_strike 41 = .ok (.getfield 273, 3) := by decide +kernel
theorem dX12_strike_44 : decode cX12_strike 44 = .ok (.if_icmp .ge 10, 3) := by decide +kernel
theorem dX12_strike_47 : decode cX12_strike 47 = .ok (.aload_n 0, 1) := by decide +kernel
theorem dX12_strike_48 : decode cX12_strike 48 = .ok (.bipush (-4), 2) := by decide +kernel
theorem dX12_strike_50 : decode cX12_strike 50 = .ok (.invokevirtual 269, 3) := by decide +kernel
theorem dX12_strike_53 : decode cX12_strike 53 = .ok (.ireturn, 1) := by decide +kernel
theorem dX12_strike_54 : decode cX12_strike 54 = .ok (.iload_n 2, 1) := by decide +kernel
theorem dX12_strike_55 : decode cX12_strike 55 = .ok (.sipush 1000, 3) := by decide +kernel
theorem dX12_strike_58 : decode cX12_strike 58 = .ok (.if_icmp .le 10, 3) := by decide +kernel
theorem dX12_strike_61 : decode cX12_strike 61 = .ok (.aload_n 0, 1) := by decide +kernel
theorem dX12_strike_62 : decode cX12_strike 62 = .ok (.bipush (-6), 2) := by decide +kernel
theorem dX12_strike_64 : decode cX12_strike 64 = .ok (.invokevirtual 269, 3) := by decide +kernel
theorem dX12_strike_67 : decode cX12_strike 67 = .ok (.ireturn, 1) := by decide +kernel
theorem dX12_strike_68 : decode cX12_strike 68 = .ok (.aload_n 0, 1) := by decide +kernel
theorem dX12_strike_69 : decode cX12_strike 69 = .ok (.getfield 47, 3) := by decide +kernel
theorem dX12_strike_72 : decode cX12_strike 72 = .ok (.iload_n 1, 1) := by decide +kernel
theorem dX12_strike_73 : decode cX12_strike 73 = .ok (.iload_n 2, 1) := by decide +kernel
theorem dX12_strike_74 : decode cX12_strike 74 = .ok (.iastore, 1) := by decide +kernel
theorem dX12_strike_75 : decode cX12_strike 75 = .ok (.iconst 1, 1) := by decide +kernel
theorem dX12_strike_76 : decode cX12_strike 76 = .ok (.ireturn, 1) := by decide +kernel
theorem dX12_findFacts_0 : decode cX12_findFacts 0 = .ok (.aload_n 0, 1) := by decide +kernel
theorem dX12_findFacts_1 : decode cX12_findFacts 1 = .ok (.getfield 50, 3) := by decide +kernel
theorem dX12_findFacts_4 : decode cX12_findFacts 4 = .ok (.iconst 0, 1) := by decide +kernel
theorem dX12_findFacts_5 : decode cX12_findFacts 5 = .ok (.iconst 0, 1) := by decide +kernel
theorem dX12_findFacts_6 : decode cX12_findFacts 6 = .ok (.iastore, 1) := by decide +kernel
theorem dX12_findFacts_7 : decode cX12_findFacts 7 = .ok (.aload_n 0, 1) := by decide +kernel
theorem dX12_findFacts_8 : decode cX12_findFacts 8 = .ok (.getfield 50, 3) := by decide +kernel
theorem dX12_findFacts_11 : decode cX12_findFacts 11 = .ok (.iconst 1, 1) := by decide +kernel
theorem dX12_findFacts_12 : decode cX12_findFacts 12 = .ok (.iconst 0, 1) := by decide +kernel
theorem dX12_findFacts_13 : decode cX12_findFacts 13 = .ok (.iastore, 1) := by decide +kernel
theorem dX12_findFacts_14 : decode cX12_findFacts 14 = .ok (.iconst 0, 1) := by decide +kernel
theorem dX12_findFacts_15 : decode cX12_findFacts 15 = .ok (.istore 4, 2) := by decide +kernel
theorem dX12_findFacts_17 : decode cX12_findFacts 17 = .ok (.iload 4, 2) := by decide +kernel
theorem dX12_findFacts_19 : decode cX12_findFacts 19 = .ok (.aload_n 0, 1) := by decide +kernel
theorem dX12_findFacts_20 : decode cX12_findFacts 20 = .ok (.getfield 266, 3) := by decide +kernel
theorem dX12_findFacts_23 : decode cX12_findFacts 23 = .ok (.if_icmp .ge 72, 3) := by decide +kernel
theorem dX12_findFacts_26 : decode cX12_findFacts 26 = .ok (.aload_n 0, 1) := by decide +kernel
theorem dX12_findFacts_27 : decode cX12_findFacts 27 = .ok (.getfield 50, 3) := by decide +kernel
theorem dX12_findFacts_30 : decode cX12_findFacts 30 = .ok (.iconst 1, 1) := by decide +kernel
theorem dX12_findFacts_31 : decode cX12_findFacts 31 = .ok (.dup2, 1) := by decide +kernel
theorem dX12_findFacts_32 : decode cX12_findFacts 32 = .ok (.iaload, 1) := by decide +kernel
theorem dX12_findFacts_33 : decode cX12_findFacts 33 = .ok (.aload_n 0, 1) := by decide +kernel
theorem dX12_findFacts_34 : decode cX12_findFacts 34 = .ok (.getfield 29, 3) := by decide +kernel
theorem dX12_findFacts_37 : decode cX12_findFacts 37 = .ok (.iload 4, 2) := by decide +kernel
theorem dX12_findFacts_39 : decode cX12_findFacts 39 = .ok (.baload, 1) := by decide +kernel
theorem dX12_findFacts_40 : decode cX12_findFacts 40 = .ok (.ifCond .eq 7, 3) := by decide +kernel
theorem dX12_findFacts_43 : decode cX12_findFacts 43 = .ok (.iconst 0, 1) := by decide +kernel
theorem dX12_findFacts_44 : decode cX12_findFacts 44 = .ok (.goto 4, 3) := by decide +kernel
theorem dX12_findFacts_47 : decode cX12_findFacts 47 = .ok (.iconst 1, 1) := by decide +kernel
theorem dX12_findFacts_48 : decode cX12_findFacts 48 = .ok (.iadd, 1) := by decide +kernel
theorem dX12_findFacts_49 : decode cX12_findFacts 49 = .ok (.iastore, 1) := by decide +kernel
theorem dX12_findFacts_50 : decode cX12_findFacts 50 = .ok (.aload_n 0, 1) := by decide +kernel
theorem dX12_findFacts_51 : decode cX12_findFacts 51 = .ok (.getfield 50, 3) := by decide +kernel
theorem dX12_findFacts_54 : decode cX12_findFacts 54 = .ok (.iconst 0, 1) := by decide +kernel
theorem dX12_findFacts_55 : decode cX12_findFacts 55 = .ok (.dup2, 1) := by decide +kernel
theorem dX12_findFacts_56 : decode cX12_findFacts 56 = .ok (.iaload, 1) := by decide +kernel
theorem dX12_findFacts_57 : decode cX12_findFacts 57 = .ok (.aload_n 0, 1) := by decide +kernel
theorem dX12_findFacts_58 : decode cX12_findFacts 58 = .ok (.getfield 29, 3) := by decide +kernel
theorem dX12_findFacts_61 : decode cX12_findFacts 61 = .ok (.iload 4, 2) := by decide +kernel
theorem dX12_findFacts_63 : decode cX12_findFacts 63 = .ok (.baload, 1) := by decide +kernel
theorem dX12_findFacts_64 : decode cX12_findFacts 64 = .ok (.ifCond .ne 22, 3) := by decide +kernel
theorem dX12_findFacts_67 : decode cX12_findFacts 67 = .ok (.iload_n 1, 1) := by decide +kernel
theorem dX12_findFacts_68 : decode cX12_findFacts 68 = .ok (.aload_n 0, 1) := by decide +kernel
theorem dX12_findFacts_69 : decode cX12_findFacts 69 = .ok (.getfield 13, 3) := by decide +kernel
theorem dX12_findFacts_72 : decode cX12_findFacts 72 = .ok (.iload 4, 2) := by decide +kernel
theorem dX12_findFacts_74 : decode cX12_findFacts 74 = .ok (.iaload, 1) := by decide +kernel
theorem dX12_findFacts_75 : decode cX12_findFacts 75 = .ok (.ishr, 1) := by decide +kernel
theorem dX12_findFacts_76 : decode cX12_findFacts 76 = .ok (.iconst 1, 1) := by decide +kernel
theorem dX12_findFacts_77 : decode cX12_findFacts 77 = .ok (.iand, 1) := by decide +kernel
theorem dX12_findFacts_78 : decode cX12_findFacts 78 = .ok (.iconst 1, 1) := by decide +kernel
theorem dX12_findFacts_79 : decode cX12_findFacts 79 = .ok (.if_icmp .ne 7, 3) := by decide +kernel
theorem dX12_findFacts_82 : decode cX12_findFacts 82 = .ok (.iconst 1, 1) := by decide +kernel
theorem dX12_findFacts_83 : decode cX12_findFacts 83 = .ok (.goto 4, 3) := by decide +kernel
theorem dX12_findFacts_86 : decode cX12_findFacts 86 = .ok (.iconst 0, 1) := by decide +kernel
theorem dX12_findFacts_87 : decode cX12_findFacts 87 = .ok (.iadd, 1) := by decide +kernel
theorem dX12_findFacts_88 : decode cX12_findFacts 88 = .ok (.iastore, 1) := by decide +kernel
theorem dX12_findFacts_89 : decode cX12_findFacts 89 = .ok (.iinc 4 1, 3) := by decide +kernel
theorem dX12_findFacts_92 : decode cX12_findFacts 92 = .ok (.goto (-75), 3) := by decide +kernel
theorem dX12_findFacts_95 : decode cX12_findFacts 95 = .ok (.aload_n 0, 1) := by decide +kernel
theorem dX12_findFacts_96 : decode cX12_findFacts 96 = .ok (.getfield 50, 3) := by decide +kernel
theorem dX12_findFacts_99 : decode cX12_findFacts 99 = .ok (.iconst 2, 1) := by decide +kernel
theorem dX12_findFacts_100 : decode cX12_findFacts 100 = .ok (.iload_n 1, 1) := by decide +kernel
theorem dX12_findFacts_101 : decode cX12_findFacts 101 = .ok (.invokestatic 354, 3) := by decide +kernel
theorem dX12_findFacts_104 : decode cX12_findFacts 104 = .ok (.iastore, 1) := by decide +kernel
theorem dX12_findFacts_105 : decode cX12_findFacts 105 = .ok (.aload_n 0, 1) := by decide +kernel
theorem dX12_findFacts_106 : decode cX12_findFacts 106 = .ok (.getfield 50, 3) := by decide +kernel
theorem dX12_findFacts_109 : decode cX12_findFacts 109 = .ok (.iconst 3, 1) := by decide +kernel
theorem dX12_findFacts_110 : decode cX12_findFacts 110 = .ok (.iload_n 2, 1) := by decide +kernel
theorem dX12_findFacts_111 : decode cX12_findFacts 111 = .ok (.iastore, 1) := by decide +kernel
theorem dX12_findFacts_112 : decode cX12_findFacts 112 = .ok (.aload_n 0, 1) := by decide +kernel
theorem dX12_findFacts_113 : decode cX12_findFacts 113 = .ok (.getfield 50, 3) := by decide +kernel
theorem dX12_findFacts_116 : decode cX12_findFacts 116 = .ok (.iconst 4, 1) := by decide +kernel
theorem dX12_findFacts_117 : decode cX12_findFacts 117 = .ok (.aload_n 0, 1) := by decide +kernel
theorem dX12_findFacts_118 : decode cX12_findFacts 118 = .ok (.getfield 357, 3) := by decide +kernel
theorem dX12_findFacts_121 : decode cX12_findFacts 121 = .ok (.iastore, 1) := by decide +kernel
theorem dX12_findFacts_122 : decode cX12_findFacts 122 = .ok (.aload_n 0, 1) := by decide +kernel
theorem dX12_findFacts_123 : decode cX12_findFacts 123 = .ok (.getfield 50, 3) := by decide +kernel
theorem dX12_findFacts_126 : decode cX12_findFacts 126 = .ok (.iconst 5, 1) := by decide +kernel
theorem dX12_findFacts_127 : decode cX12_findFacts 127 = .ok (.iload_n 3, 1) := by decide +kernel
theorem dX12_findFacts_128 : decode cX12_findFacts 128 = .ok (.ifCond .eq 7, 3) := by decide +kernel
theorem dX12_findFacts_131 : decode cX12_findFacts 131 = .ok (.iconst 1, 1) := by decide +kernel
theorem dX12_findFacts_132 : decode cX12_findFacts 132 = .ok (.goto 4, 3) := by decide +kernel
theorem dX12_findFacts_135 : decode cX12_findFacts 135 = .ok (.iconst 0, 1) := by decide +kernel
theorem dX12_findFacts_136 : decode cX12_findFacts 136 = .ok (.iastore, 1) := by decide +kernel
theorem dX12_findFacts_137 : decode cX12_findFacts 137 = .ok (.return_, 1) := by decide +kernel
theorem dX12_kindIn_0 : decode cX12_kindIn 0 = .ok (.aload_n 0, 1) := by decide +kernel
theorem dX12_kindIn_1 : decode cX12_kindIn 1 = .ok (.getfield 38, 3) := by decide +kernel
theorem dX12_kindIn_4 : decode cX12_kindIn 4 = .ok (.bipush 60, 2) := by decide +kernel
theorem dX12_kindIn_6 : decode cX12_kindIn 6 = .ok (.iload_n 1, 1) := by decide +kernel
theorem dX12_kindIn_7 : decode cX12_kindIn 7 = .ok (.imul, 1) := by decide +kernel
theorem dX12_kindIn_8 : decode cX12_kindIn 8 = .ok (.iconst 1, 1) := by decide +kernel
theorem dX12_kindIn_9 : decode cX12_kindIn 9 = .ok (.iadd, 1) := by decide +kernel
theorem dX12_kindIn_10 : decode cX12_kindIn 10 = .ok (.iaload, 1) := by decide +kernel
theorem dX12_kindIn_11 : decode cX12_kindIn 11 = .ok (.bipush 48, 2) := by decide +kernel
theorem dX12_kindIn_13 : decode cX12_kindIn 13 = .ok (.isub, 1) := by decide +kernel
theorem dX12_kindIn_14 : decode cX12_kindIn 14 = .ok (.ireturn, 1) := by decide +kernel
theorem dX12_givingAct_0 : decode cX12_givingAct 0 = .ok (.aload_n 0, 1) := by decide +kernel
theorem dX12_givingAct_1 : decode cX12_givingAct 1 = .ok (.iload_n 2, 1) := by decide +kernel
theorem dX12_givingAct_2 : decode cX12_givingAct 2 = .ok (.iload_n 3, 1) := by decide +kernel
theorem dX12_givingAct_3 : decode cX12_givingAct 3 = .ok (.iload 4, 2) := by decide +kernel
theorem dX12_givingAct_5 : decode cX12_givingAct 5 = .ok (.invokevirtual 360, 3) := by decide +kernel
theorem dX12_givingAct_8 : decode cX12_givingAct 8 = .ok (.iconst (-1), 1) := by decide +kernel
theorem dX12_givingAct_9 : decode cX12_givingAct 9 = .ok (.istore 5, 2) := by decide +kernel
theorem dX12_givingAct_11 : decode cX12_givingAct 11 = .ok (.iconst 0, 1) := by decide +kernel
theorem dX12_givingAct_12 : decode cX12_givingAct 12 = .ok (.istore 6, 2) := by decide +kernel
theorem dX12_givingAct_14 : decode cX12_givingAct 14 = .ok (.iload 6, 2) := by decide +kernel
theorem dX12_givingAct_16 : decode cX12_givingAct 16 = .ok (.aload_n 0, 1) := by decide +kernel
theorem dX12_givingAct_17 : decode cX12_givingAct 17 = .ok (.getfield 347, 3) := by decide +kernel
theorem dX12_givingAct_20 : decode cX12_givingAct 20 = .ok (.if_icmp .ge 149, 3) := by decide +kernel
theorem dX12_givingAct_23 : decode cX12_givingAct 23 = .ok (.aload_n 0, 1) := by decide +kernel
theorem dX12_givingAct_24 : decode cX12_givingAct 24 = .ok (.getfield 59, 3) := by decide +kernel
theorem dX12_givingAct_27 : decode cX12_givingAct 27 = .ok (.iload 6, 2) := by decide +kernel
theorem dX12_givingAct_29 : decode cX12_givingAct 29 = .ok (.iconst 0, 1) := by decide +kernel
theorem dX12_givingAct_30 : decode cX12_givingAct 30 = .ok (.bastore, 1) := by decide +kernel
theorem dX12_givingAct_31 : decode cX12_givingAct 31 = .ok (.aload_n 0, 1) := by decide +kernel
theorem dX12_givingAct_32 : decode cX12_givingAct 32 = .ok (.getfield 38, 3) := by decide +kernel
theorem dX12_givingAct_35 : decode cX12_givingAct 35 = .ok (.bipush 60, 2) := by decide +kernel
theorem dX12_givingAct_37 : decode cX12_givingAct 37 = .ok (.iload 6, 2) := by decide +kernel
theorem dX12_givingAct_39 : decode cX12_givingAct 39 = .ok (.imul, 1) := by decide +kernel
theorem dX12_givingAct_40 : decode cX12_givingAct 40 = .ok (.iaload, 1) := by decide +kernel
theorem dX12_givingAct_41 : decode cX12_givingAct 41 = .ok (.bipush 65, 2) := by decide +kernel
theorem dX12_givingAct_43 : decode cX12_givingAct 43 = .ok (.isub, 1) := by decide +kernel
theorem dX12_givingAct_44 : decode cX12_givingAct 44 = .ok (.iload_n 1, 1) := by decide +kernel
theorem dX12_givingAct_45 : decode cX12_givingAct 45 = .ok (.if_icmp .ne 118, 3) := by decide +kernel
theorem dX12_givingAct_48 : decode cX12_givingAct 48 = .ok (.aload_n 0, 1) := by decide +kernel
theorem dX12_givingAct_49 : decode cX12_givingAct 49 = .ok (.getfield 44, 3) := by decide +kernel
theorem dX12_givingAct_52 : decode cX12_givingAct 52 = .ok (.iload 6, 2) := by decide +kernel
theorem dX12_givingAct_54 : decode cX12_givingAct 54 = .ok (.iaload, 1) := by decide +kernel
theorem dX12_givingAct_55 : decode cX12_givingAct 55 = .ok (.aload_n 0, 1) := by decide +kernel
theorem dX12_givingAct_56 : decode cX12_givingAct 56 = .ok (.getfield 273, 3) := by decide +kernel
theorem dX12_givingAct_59 : decode cX12_givingAct 59 = .ok (.if_icmp .gt 104, 3) := by decide +kernel
theorem dX12_givingAct_62 : decode cX12_givingAct 62 = .ok (.aload_n 0, 1) := by decide +kernel
theorem dX12_givingAct_63 : decode cX12_givingAct 63 = .ok (.getfield 47, 3) := by decide +kernel
theorem dX12_givingAct_66 : decode cX12_givingAct 66 = .ok (.iload 6, 2) := by decide +kernel
theorem dX12_givingAct_68 : decode cX12_givingAct 68 = .ok (.iaload, 1) := by decide +kernel
theorem dX12_givingAct_69 : decode cX12_givingAct 69 = .ok (.aload_n 0, 1) := by decide +kernel
theorem dX12_givingAct_70 : decode cX12_givingAct 70 = .ok (.getfield 273, 3) := by decide +kernel
theorem dX12_givingAct_73 : decode cX12_givingAct 73 = .ok (.if_icmp .le 90, 3) := by decide +kernel
theorem dX12_givingAct_76 : decode cX12_givingAct 76 = .ok (.aload_n 0, 1) := by decide +kernel
theorem dX12_givingAct_77 : decode cX12_givingAct 77 = .ok (.iconst 1, 1) := by decide +kernel
theorem dX12_givingAct_78 : decode cX12_givingAct 78 = .ok (.putfield 298, 3) := by decide +kernel
theorem dX12_givingAct_81 : decode cX12_givingAct 81 = .ok (.aload_n 0, 1) := by decide +kernel
theorem dX12_givingAct_82 : decode cX12_givingAct 82 = .ok (.bipush 60, 2) := by decide +kernel
theorem dX12_givingAct_84 : decode cX12_givingAct 84 = .ok (.iload 6, 2) := by decide +kernel
theorem dX12_givingAct_86 : decode cX12_givingAct 86 = .ok (.imul, 1) := by decide +kernel
theorem dX12_givingAct_87 : decode cX12_givingAct 87 = .ok (.putfield 302, 3) := by decide +kernel
theorem dX12_givingAct_90 : decode cX12_givingAct 90 = .ok (.aload_n 0, 1) := by decide +kernel
theorem dX12_givingAct_91 : decode cX12_givingAct 91 = .ok (.aload_n 0, 1) := by decide +kernel
theorem dX12_givingAct_92 : decode cX12_givingAct 92 = .ok (.getfield 41, 3) := by decide +kernel
theorem dX12_givingAct_95 : decode cX12_givingAct 95 = .ok (.iload 6, 2) := by decide +kernel
theorem dX12_givingAct_97 : decode cX12_givingAct 97 = .ok (.iaload, 1) := by decide +kernel
theorem dX12_givingAct_98 : decode cX12_givingAct 98 = .ok (.putfield 295, 3) := by decide +kernel
theorem dX12_givingAct_101 : decode cX12_givingAct 101 = .ok (.aload_n 0, 1) := by decide +kernel
theorem dX12_givingAct_102 : decode cX12_givingAct 102 = .ok (.iconst 3, 1) := by decide +kernel
theorem dX12_givingAct_103 : decode cX12_givingAct 103 = .ok (.putfield 292, 3) := by decide +kernel
theorem dX12_givingAct_106 : decode cX12_givingAct 106 = .ok (.aload_n 0, 1) := by decide +kernel
theorem dX12_givingAct_107 : decode cX12_givingAct 107 = .ok (.iconst 0, 1) := by decide +kernel
theorem dX12_givingAct_108 : decode cX12_givingAct 108 = .ok (.putfield 312, 3) := by decide +kernel
theorem dX12_givingAct_111 : decode cX12_givingAct 111 = .ok (.aload_n 0, 1) := by decide +kernel
theorem dX12_givingAct_112 : decode cX12_givingAct 112 = .ok (.getfield 59, 3) := by decide +kernel
theorem dX12_givingAct_115 : decode cX12_givingAct 115 = .ok (.iload 6, 2) := by decide +kernel
theorem dX12_givingAct_117 : decode cX12_givingAct 117 = .ok (.aload_n 0, 1) := by decide +kernel
theorem dX12_givingAct_118 : decode cX12_givingAct 118 = .ok (.invokevirtual 350, 3) := by decide +kernel
theorem dX12_givingAct_121 : decode cX12_givingAct 121 = .ok (.bastore, 1) := by decide +kernel
theorem dX12_givingAct_122 : decode cX12_givingAct 122 = .ok (.aload_n 0, 1) := by decide +kernel
theorem dX12_givingAct_123 : decode cX12_givingAct 123 = .ok (.getfield 59, 3) := by decide +kernel
theorem dX12_givingAct_126 : decode cX12_givingAct 126 = .ok (.iload 6, 2) := by decide +kernel
theorem dX12_givingAct_128 : decode cX12_givingAct 128 = .ok (.baload, 1) := by decide +kernel
theorem dX12_givingAct_129 : decode cX12_givingAct 129 = .ok (.ifCond .eq 30, 3) := by decide +kernel
theorem dX12_givingAct_132 : decode cX12_givingAct 132 = .ok (.iload 5, 2) := by decide +kernel
theorem dX12_givingAct_134 : decode cX12_givingAct 134 = .ok (.ifCond .lt 20, 3) := by decide +kernel
theorem dX12_givingAct_137 : decode cX12_givingAct 137 = .ok (.aload_n 0, 1) := by decide +kernel
theorem dX12_givingAct_138 : decode cX12_givingAct 138 = .ok (.getfield 44, 3) := by decide +kernel
theorem dX12_givingAct_141 : decode cX12_givingAct 141 = .ok (.iload 6, 2) := by decide +kernel
theorem dX12_givingAct_143 : decode cX12_givingAct 143 = .ok (.iaload, 1) := by decide +kernel
theorem dX12_givingAct_144 : decode cX12_givingAct 144 = .ok (.aload_n 0, 1) := by decide +kernel
theorem dX12_givingAct_145 : decode cX12_givingAct 145 = .ok (.getfield 44, 3) := by decide +kernel
theorem dX12_givingAct_148 : decode cX12_givingAct 148 = .ok (.iload 5, 2) := by decide +kernel
theorem dX12_givingAct_150 : decode cX12_givingAct 150 = .ok (.iaload, 1) := by decide +kernel
theorem dX12_givingAct_151 : decode cX12_givingAct 151 = .ok (.if_icmp .lt 8, 3) := by decide +kernel
theorem dX12_givingAct_154 : decode cX12_givingAct 154 = .ok (.iload 6, 2) := by decide +kernel
theorem dX12_givingAct_156 : decode cX12_givingAct 156 = .ok (.goto 5, 3) := by decide +kernel
theorem dX12_givingAct_159 : decode cX12_givingAct 159 = .ok (.iload 5, 2) := by decide +kernel
theorem dX12_givingAct_161 : decode cX12_givingAct 161 = .ok (.istore 5, 2) := by decide +kernel
theorem dX12_givingAct_163 : decode cX12_givingAct 163 = .ok (.iinc 6 1, 3) := by decide +kernel
theorem dX12_givingAct_166 : decode cX12_givingAct 166 = .ok (.goto (-152), 3) := by decide +kernel
theorem dX12_givingAct_169 : decode cX12_givingAct 169 = .ok (.iload 5, 2) := by decide +kernel
theorem dX12_givingAct_171 : decode cX12_givingAct 171 = .ok (.ireturn, 1) := by decide +kernel
theorem dX12_quarrel_0 : decode cX12_quarrel 0 = .ok (.iconst 0, 1) := by decide +kernel
theorem dX12_quarrel_1 : decode cX12_quarrel 1 = .ok (.istore_n 2, 1) := by decide +kernel
theorem dX12_quarrel_2 : decode cX12_quarrel 2 = .ok (.iload_n 2, 1) := by decide +kernel
theorem dX12_quarrel_3 : decode cX12_quarrel 3 = .ok (.aload_n 0, 1) := by decide +kernel
theorem dX12_quarrel_4 : decode cX12_quarrel 4 = .ok (.getfield 347, 3) := by decide +kernel
theorem dX12_quarrel_7 : decode cX12_quarrel 7 = .ok (.if_icmp .ge 66, 3) := by decide +kernel
theorem dX12_quarrel_10 : decode cX12_quarrel 10 = .ok (.iconst 0, 1) := by decide +kernel
theorem dX12_quarrel_11 : decode cX12_quarrel 11 = .ok (.istore_n 3, 1) := by decide +kernel
theorem dX12_quarrel_12 : decode cX12_quarrel 12 = .ok (.iload_n 3, 1) := by decide +kernel
theorem dX12_quarrel_13 : decode cX12_quarrel 13 = .ok (.aload_n 0, 1) := by decide +kernel
theorem dX12_quarrel_14 : decode cX12_quarrel 14 = .ok (.getfield 347, 3) := by decide +kernel
theorem dX12_quarrel_17 : decode cX12_quarrel 17 = .ok (.if_icmp .ge 50, 3) := by decide +kernel
theorem dX12_quarrel_20 : decode cX12_quarrel 20 = .ok (.aload_n 0, 1) := by decide +kernel
theorem dX12_quarrel_21 : decode cX12_quarrel 21 = .ok (.getfield 59, 3) := by decide +kernel
theorem dX12_quarrel_24 : decode cX12_quarrel 24 = .ok (.iload_n 2, 1) := by decide +kernel
theorem dX12_quarrel_25 : decode cX12_quarrel 25 = .ok (.baload, 1) := by decide +kernel
theorem dX12_quarrel_26 : decode cX12_quarrel 26 = .ok (.ifCond .eq 35, 3) := by decide +kernel
theorem dX12_quarrel_29 : decode cX12_quarrel 29 = .ok (.aload_n 0, 1) := by decide +kernel
theorem dX12_quarrel_30 : decode cX12_quarrel 30 = .ok (.getfield 59, 3) := by decide +kernel
theorem dX12_quarrel_33 : decode cX12_quarrel 33 = .ok (.iload_n 3, 1) := by decide +kernel
theorem dX12_quarrel_34 : decode cX12_quarrel 34 = .ok (.baload, 1) := by decide +kernel
theorem dX12_quarrel_35 : decode cX12_quarrel 35 = .ok (.ifCond .eq 26, 3) := by decide +kernel
theorem dX12_quarrel_38 : decode cX12_quarrel 38 = .ok (.aload_n 0, 1) := by decide +kernel
theorem dX12_quarrel_39 : decode cX12_quarrel 39 = .ok (.iload_n 2, 1) := by decide +kernel
theorem dX12_quarrel_40 : decode cX12_quarrel 40 = .ok (.invokevirtual 364, 3) := by decide +kernel
theorem dX12_quarrel_43 : decode cX12_quarrel 43 = .ok (.aload_n 0, 1) := by decide +kernel
theorem dX12_quarrel_44 : decode cX12_quarrel 44 = .ok (.iload_n 3, 1) := by decide +kernel
theorem dX12_quarrel_45 : decode cX12_quarrel 45 = .ok (.invokevirtual 364, 3) := by decide +kernel
theorem dX12_quarrel_48 : decode cX12_quarrel 48 = .ok (.if_icmp .eq 13, 3) := by decide +kernel
theorem dX12_quarrel_51 : decode cX12_quarrel 51 = .ok (.iload_n 1, 1) := by decide +kernel
theorem dX12_quarrel_52 : decode cX12_quarrel 52 = .ok (.ifCond .eq 7, 3) := by decide +kernel
theorem dX12_quarrel_55 : decode cX12_quarrel 55 = .ok (.iload_n 3, 1) := by decide +kernel
theorem dX12_quarrel_56 : decode cX12_quarrel 56 = .ok (.goto 4, 3) := by decide +kernel
theorem dX12_quarrel_59 : decode cX12_quarrel 59 = .ok (.iload_n 2, 1) := by decide +kernel
theorem dX12_quarrel_60 : decode cX12_quarrel 60 = .ok (.ireturn, 1) := by decide +kernel
theorem dX12_quarrel_61 : decode cX12_quarrel 61 = .ok (.iinc 3 1, 3) := by decide +kernel
theorem dX12_quarrel_64 : decode cX12_quarrel 64 = .ok (.goto (-52), 3) := by decide +kernel
theorem dX12_quarrel_67 : decode cX12_quarrel 67 = .ok (.iinc 2 1, 3) := by decide +kernel
theorem dX12_quarrel_70 : decode cX12_quarrel 70 = .ok (.goto (-68), 3) := by decide +kernel
theorem dX12_quarrel_73 : decode cX12_quarrel 73 = .ok (.bipush (-9), 2) := by decide +kernel
theorem dX12_quarrel_75 : decode cX12_quarrel 75 = .ok (.ireturn, 1) := by decide +kernel
theorem dX12_wrongSums_0 : decode cX12_wrongSums 0 = .ok (.iload_n 0, 1) := by decide +kernel
theorem dX12_wrongSums_1 : decode cX12_wrongSums 1 = .ok (.iconst 1, 1) := by decide +kernel
theorem dX12_wrongSums_2 : decode cX12_wrongSums 2 = .ok (.if_icmp .lt 7, 3) := by decide +kernel
theorem dX12_wrongSums_5 : decode cX12_wrongSums 5 = .ok (.iload_n 1, 1) := by decide +kernel
theorem dX12_wrongSums_6 : decode cX12_wrongSums 6 = .ok (.ifCond .ge 8, 3) := by decide +kernel
theorem dX12_wrongSums_9 : decode cX12_wrongSums 9 = .ok (.bipush (-4), 2) := by decide +kernel
theorem dX12_wrongSums_11 : decode cX12_wrongSums 11 = .ok (.goto 22, 3) := by decide +kernel
theorem dX12_wrongSums_14 : decode cX12_wrongSums 14 = .ok (.iload_n 0, 1) := by decide +kernel
theorem dX12_wrongSums_15 : decode cX12_wrongSums 15 = .ok (.bipush 63, 2) := by decide +kernel
theorem dX12_wrongSums_17 : decode cX12_wrongSums 17 = .ok (.if_icmp .gt 10, 3) := by decide +kernel
theorem dX12_wrongSums_20 : decode cX12_wrongSums 20 = .ok (.iload_n 1, 1) := by decide +kernel
theorem dX12_wrongSums_21 : decode cX12_wrongSums 21 = .ok (.sipush 9999, 3) := by decide +kernel
theorem dX12_wrongSums_24 : decode cX12_wrongSums 24 = .ok (.if_icmp .le 8, 3) := by decide +kernel
theorem dX12_wrongSums_27 : decode cX12_wrongSums 27 = .ok (.bipush (-6), 2) := by decide +kernel
theorem dX12_wrongSums_29 : decode cX12_wrongSums 29 = .ok (.goto 4, 3) := by decide +kernel
theorem dX12_wrongSums_32 : decode cX12_wrongSums 32 = .ok (.iconst 0, 1) := by decide +kernel
theorem dX12_wrongSums_33 : decode cX12_wrongSums 33 = .ok (.ireturn, 1) := by decide +kernel
theorem dX12_kind_0 : decode cX12_kind 0 = .ok (.iload_n 1, 1) := by decide +kernel
theorem dX12_kind_1 : decode cX12_kind 1 = .ok (.invokestatic 367, 3) := by decide +kernel
theorem dX12_kind_4 : decode cX12_kind 4 = .ok (.ifCond .eq 13, 3) := by decide +kernel
theorem dX12_kind_7 : decode cX12_kind 7 = .ok (.iload 5, 2) := by decide +kernel
theorem dX12_kind_9 : decode cX12_kind 9 = .ok (.iconst 0, 1) := by decide +kernel
theorem dX12_kind_10 : decode cX12_kind 10 = .ok (.iconst 3, 1) := by decide +kernel
theorem dX12_kind_11 : decode cX12_kind 11 = .ok (.invokestatic 262, 3) := by decide +kernel
theorem dX12_kind_14 : decode cX12_kind 14 = .ok (.ifCond .ne 10, 3) := by decide +kernel
theorem dX12_kind_17 : decode cX12_kind 17 = .ok (.aload_n 0, 1) := by decide +kernel
theorem dX12_kind_18 : decode cX12_kind 18 = .ok (.bipush (-2), 2) := by decide +kernel
theorem dX12_kind_20 : decode cX12_kind 20 = .ok (.invokevirtual 269, 3) := by decide +kernel
theorem dX12_kind_23 : decode cX12_kind 23 = .ok (.ireturn, 1) := by decide +kernel
theorem dX12_kind_24 : decode cX12_kind 24 = .ok (.iload_n 2, 1) := by decide +kernel
theorem dX12_kind_25 : decode cX12_kind 25 = .ok (.iload_n 3, 1) := by decide +kernel
theorem dX12_kind_26 : decode cX12_kind 26 = .ok (.invokestatic 370, 3) := by decide +kernel
theorem dX12_kind_29 : decode cX12_kind 29 = .ok (.ifCond .ge 13, 3) := by decide +kernel
theorem dX12_kind_32 : decode cX12_kind 32 = .ok (.aload_n 0, 1) := by decide +kernel
theorem dX12_kind_33 : decode cX12_kind 33 = .ok (.iload_n 2, 1) := by decide +kernel
theorem dX12_kind_34 : decode cX12_kind 34 = .ok (.iload_n 3, 1) := by decide +kernel
theorem dX12_kind_35 : decode cX12_kind 35 = .ok (.invokestatic 370, 3) := by decide +kernel
theorem dX12_kind_38 : decode cX12_kind 38 = .ok (.invokevirtual 269, 3) := by decide +kernel
theorem dX12_kind_41 : decode cX12_kind 41 = .ok (.ireturn, 1) := by decide +kernel
theorem dX12_kind_42 : decode cX12_kind 42 = .ok (.aload_n 0, 1) := by decide +kernel
theorem dX12_kind_43 : decode cX12_kind 43 = .ok (.iload_n 1, 1) := by decide +kernel
theorem dX12_kind_44 : decode cX12_kind 44 = .ok (.iload_n 2, 1) := by decide +kernel
theorem dX12_kind_45 : decode cX12_kind 45 = .ok (.iload_n 3, 1) := by decide +kernel
theorem dX12_kind_46 : decode cX12_kind 46 = .ok (.iload 4, 2) := by decide +kernel
theorem dX12_kind_48 : decode cX12_kind 48 = .ok (.invokevirtual 373, 3) := by decide +kernel
theorem dX12_kind_51 : decode cX12_kind 51 = .ok (.istore 6, 2) := by decide +kernel
theorem dX12_kind_53 : decode cX12_kind 53 = .ok (.iload 5, 2) := by decide +kernel
theorem dX12_kind_55 : decode cX12_kind 55 = .ok (.ifCond .ne 21, 3) := by decide +kernel
theorem dX12_kind_58 : decode cX12_kind 58 = .ok (.iload 6, 2) := by decide +kernel
theorem dX12_kind_60 : decode cX12_kind 60 = .ok (.ifCond .ge 7, 3) := by decide +kernel
theorem dX12_kind_63 : decode cX12_kind 63 = .ok (.iconst 0, 1) := by decide +kernel
theorem dX12_kind_64 : decode cX12_kind 64 = .ok (.goto 48, 3) := by decide +kernel
theorem dX12_kind_67 : decode cX12_kind 67 = .ok (.aload_n 0, 1) := by decide +kernel
theorem dX12_kind_68 : decode cX12_kind 68 = .ok (.iload 6, 2) := by decide +kernel
theorem dX12_kind_70 : decode cX12_kind 70 = .ok (.invokevirtual 364, 3) := by decide +kernel
theorem dX12_kind_73 : decode cX12_kind 73 = .ok (.goto 39, 3) := by decide +kernel
theorem dX12_kind_76 : decode cX12_kind 76 = .ok (.iload 5, 2) := by decide +kernel
theorem dX12_kind_78 : decode cX12_kind 78 = .ok (.iconst 1, 1) := by decide +kernel
theorem dX12_kind_79 : decode cX12_kind 79 = .ok (.if_icmp .ne 18, 3) := by decide +kernel
theorem dX12_kind_82 : decode cX12_kind 82 = .ok (.iload 6, 2) := by decide +kernel
theorem dX12_kind_84 : decode cX12_kind 84 = .ok (.ifCond .ge 8, 3) := by decide +kernel
theorem dX12_kind_87 : decode cX12_kind 87 = .ok (.bipush (-9), 2) := by decide +kernel
theorem dX12_kind_89 : decode cX12_kind 89 = .ok (.goto 23, 3) := by decide +kernel
theorem dX12_kind_92 : decode cX12_kind 92 = .ok (.iload 6, 2) := by decide +kernel
theorem dX12_kind_94 : decode cX12_kind 94 = .ok (.goto 18, 3) := by decide +kernel
theorem dX12_kind_97 : decode cX12_kind 97 = .ok (.aload_n 0, 1) := by decide +kernel
theorem dX12_kind_98 : decode cX12_kind 98 = .ok (.iload 5, 2) := by decide +kernel
theorem dX12_kind_100 : decode cX12_kind 100 = .ok (.iconst 3, 1) := by decide +kernel
theorem dX12_kind_101 : decode cX12_kind 101 = .ok (.if_icmp .ne 7, 3) := by decide +kernel
theorem dX12_kind_104 : decode cX12_kind 104 = .ok (.iconst 1, 1) := by decide +kernel
theorem dX12_kind_105 : decode cX12_kind 105 = .ok (.goto 4, 3) := by decide +kernel
theorem dX12_kind_108 : decode cX12_kind 108 = .ok (.iconst 0, 1) := by decide +kernel
theorem dX12_kind_109 : decode cX12_kind 109 = .ok (.invokevirtual 377, 3) := by decide +kernel
theorem dX12_kind_112 : decode cX12_kind 112 = .ok (.ireturn, 1) := by decide +kernel
theorem dX12_term_0 : decode cX12_term 0 = .ok (.iload_n 1, 1) := by decide +kernel
theorem dX12_term_1 : decode cX12_term 1 = .ok (.iconst 0, 1) := by decide +kernel
theorem dX12_term_2 : decode cX12_term 2 = .ok (.iconst 4, 1) := by decide +kernel
theorem dX12_term_3 : decode cX12_term 3 = .ok (.invokestatic 262, 3) := by decide +kernel
theorem dX12_term_6 : decode cX12_term 6 = .ok (.ifCond .eq 12, 3) := by decide +kernel
theorem dX12_term_9 : decode cX12_term 9 = .ok (.iload_n 2, 1) := by decide +kernel
theorem dX12_term_10 : decode cX12_term 10 = .ok (.iconst 0, 1) := by decide +kernel
theorem dX12_term_11 : decode cX12_term 11 = .ok (.iconst 2, 1) := by decide +kernel
theorem dX12_term_12 : decode cX12_term 12 = .ok (.invokestatic 262, 3) := by decide +kernel
theorem dX12_term_15 : decode cX12_term 15 = .ok (.ifCond .ne 10, 3) := by decide +kernel
theorem dX12_term_18 : decode cX12_term 18 = .ok (.aload_n 0, 1) := by decide +kernel
theorem dX12_term_19 : decode cX12_term 19 = .ok (.bipush (-2), 2) := by decide +kernel
theorem dX12_term_21 : decode cX12_term 21 = .ok (.invokevirtual 269, 3) := by decide +kernel
theorem dX12_term_24 : decode cX12_term 24 = .ok (.ireturn, 1) := by decide +kernel
theorem dX12_term_25 : decode cX12_term 25 = .ok (.iload_n 3, 1) := by decide +kernel
theorem dX12_term_26 : decode cX12_term 26 = .ok (.ifCond .ge 10, 3) := by decide +kernel
theorem dX12_term_29 : decode cX12_term 29 = .ok (.aload_n 0, 1) := by decide +kernel
theorem dX12_term_30 : decode cX12_term 30 = .ok (.bipush (-4), 2) := by decide +kernel
theorem dX12_term_32 : decode cX12_term 32 = .ok (.invokevirtual 269, 3) := by decide +kernel
theorem dX12_term_35 : decode cX12_term 35 = .ok (.ireturn, 1) := by decide +kernel
theorem dX12_term_36 : decode cX12_term 36 = .ok (.iload_n 3, 1) := by decide +kernel
theorem dX12_term_37 : decode cX12_term 37 = .ok (.iload_n 2, 1) := by decide +kernel
theorem dX12_term_38 : decode cX12_term 38 = .ok (.ifCond .ne 9, 3) := by decide +kernel
theorem dX12_term_41 : decode cX12_term 41 = .ok (.sipush 255, 3) := by decide +kernel
theorem dX12_term_44 : decode cX12_term 44 = .ok (.goto 14, 3) := by decide +kernel
theorem dX12_term_47 : decode cX12_term 47 = .ok (.iload_n 2, 1) := by decide +kernel
theorem dX12_term_48 : decode cX12_term 48 = .ok (.iconst 1, 1) := by decide +kernel
theorem dX12_term_49 : decode cX12_term 49 = .ok (.if_icmp .ne 8, 3) := by decide +kernel
theorem dX12_term_52 : decode cX12_term 52 = .ok (.bipush 30, 2) := by decide +kernel
theorem dX12_term_54 : decode cX12_term 54 = .ok (.goto 4, 3) := by decide +kernel
theorem dX12_term_57 : decode cX12_term 57 = .ok (.iconst 1, 1) := by decide +kernel
theorem dX12_term_58 : decode cX12_term 58 = .ok (.if_icmp .le 10, 3) := by decide +kernel
theorem dX12_term_61 : decode cX12_term 61 = .ok (.aload_n 0, 1) := by decide +kernel
theorem dX12_term_62 : decode cX12_term 62 = .ok (.bipush (-6), 2) := by decide +kernel
theorem dX12_term_64 : decode cX12_term 64 = .ok (.invokevirtual 269, 3) := by decide +kernel
theorem dX12_term_67 : decode cX12_term 67 = .ok (.ireturn, 1) := by decide +kernel
theorem dX12_term_68 : decode cX12_term 68 = .ok (.iload_n 2, 1) := by decide +kernel
theorem dX12_term_69 : decode cX12_term 69 = .ok (.ifCond .ne 12, 3) := by decide +kernel
theorem dX12_term_72 : decode cX12_term 72 = .ok (.aload_n 0, 1) := by decide +kernel
theorem dX12_term_73 : decode cX12_term 73 = .ok (.getfield 62, 3) := by decide +kernel
theorem dX12_term_76 : decode cX12_term 76 = .ok (.iload_n 1, 1) := by decide +kernel
theorem dX12_term_77 : decode cX12_term 77 = .ok (.iaload, 1) := by decide +kernel
theorem dX12_term_78 : decode cX12_term 78 = .ok (.goto 23, 3) := by decide +kernel
theorem dX12_term_81 : decode cX12_term 81 = .ok (.iload_n 2, 1) := by decide +kernel
theorem dX12_term_82 : decode cX12_term 82 = .ok (.iconst 1, 1) := by decide +kernel
theorem dX12_term_83 : decode cX12_term 83 = .ok (.if_icmp .ne 12, 3) := by decide +kernel
theorem dX12_term_86 : decode cX12_term 86 = .ok (.aload_n 0, 1) := by decide +kernel
theorem dX12_term_87 : decode cX12_term 87 = .ok (.getfield 65, 3) := by decide +kernel
theorem dX12_term_90 : decode cX12_term 90 = .ok (.iload_n 1, 1) := by decide +kernel
theorem dX12_term_91 : decode cX12_term 91 = .ok (.iaload, 1) := by decide +kernel
theorem dX12_term_92 : decode cX12_term 92 = .ok (.goto 9, 3) := by decide +kernel
theorem dX12_term_95 : decode cX12_term 95 = .ok (.aload_n 0, 1) := by decide +kernel
theorem dX12_term_96 : decode cX12_term 96 = .ok (.getfield 68, 3) := by decide +kernel
theorem dX12_term_99 : decode cX12_term 99 = .ok (.iload_n 1, 1) := by decide +kernel
theorem dX12_term_100 : decode cX12_term 100 = .ok (.iaload, 1) := by decide +kernel
theorem dX12_term_101 : decode cX12_term 101 = .ok (.istore 4, 2) := by decide +kernel
theorem dX12_term_103 : decode cX12_term 103 = .ok (.aload_n 0, 1) := by decide +kernel
theorem dX12_term_104 : decode cX12_term 104 = .ok (.getfield 62, 3) := by decide +kernel
theorem dX12_term_107 : decode cX12_term 107 = .ok (.iload_n 1, 1) := by decide +kernel
theorem dX12_term_108 : decode cX12_term 108 = .ok (.iload_n 2, 1) := by decide +kernel
theorem dX12_term_109 : decode cX12_term 109 = .ok (.ifCond .ne 7, 3) := by decide +kernel
theorem dX12_term_112 : decode cX12_term 112 = .ok (.iload_n 3, 1) := by decide +kernel
theorem dX12_term_113 : decode cX12_term 113 = .ok (.goto 9, 3) := by decide +kernel
theorem dX12_term_116 : decode cX12_term 116 = .ok (.aload_n 0, 1) := by decide +kernel
theorem dX12_term_117 : decode cX12_term 117 = .ok (.getfield 62, 3) := by decide +kernel
theorem dX12_term_120 : decode cX12_term 120 = .ok (.iload_n 1, 1) := by decide +kernel
theorem dX12_term_121 : decode cX12_term 121 = .ok (.iaload, 1) := by decide +kernel
theorem dX12_term_122 : decode cX12_term 122 = .ok (.iastore, 1) := by decide +kernel
theorem dX12_term_123 : decode cX12_term 123 = .ok (.aload_n 0, 1) := by decide +kernel
theorem dX12_term_124 : decode cX12_term 124 = .ok (.getfield 65, 3) := by decide +kernel
theorem dX12_term_127 : decode cX12_term 127 = .ok (.iload_n 1, 1) := by decide +kernel
theorem dX12_term_128 : decode cX12_term 128 = .ok (.iload_n 2, 1) := by decide +kernel
theorem dX12_term_129 : decode cX12_term 129 = .ok (.iconst 1, 1) := by decide +kernel
theorem dX12_term_130 : decode cX12_term 130 = .ok (.if_icmp .ne 7, 3) := by decide +kernel
theorem dX12_term_133 : decode cX12_term 133 = .ok (.iload_n 3, 1) := by decide +kernel
theorem dX12_term_134 : decode cX12_term 134 = .ok (.goto 9, 3) := by decide +kernel
theorem dX12_term_137 : decode cX12_term 137 = .ok (.aload_n 0, 1) := by decide +kernel
theorem dX12_term_138 : decode cX12_term 138 = .ok (.getfield 65, 3) := by decide +kernel
theorem dX12_term_141 : decode cX12_term 141 = .ok (.iload_n 1, 1) := by decide +kernel
theorem dX12_term_142 : decode cX12_term 142 = .ok (.iaload, 1) := by decide +kernel
theorem dX12_term_143 : decode cX12_term 143 = .ok (.iastore, 1) := by decide +kernel
theorem dX12_term_144 : decode cX12_term 144 = .ok (.aload_n 0, 1) := by decide +kernel
theorem dX12_term_145 : decode cX12_term 145 = .ok (.getfield 68, 3) := by decide +kernel
theorem dX12_term_148 : decode cX12_term 148 = .ok (.iload_n 1, 1) := by decide +kernel
theorem dX12_term_149 : decode cX12_term 149 = .ok (.iload_n 2, 1) := by decide +kernel
theorem dX12_term_150 : decode cX12_term 150 = .ok (.iconst 2, 1) := by decide +kernel
theorem dX12_term_151 : decode cX12_term 151 = .ok (.if_icmp .ne 7, 3) := by decide +kernel
theorem dX12_term_154 : decode cX12_term 154 = .ok (.iload_n 3, 1) := by decide +kernel
theorem dX12_term_155 : decode cX12_term 155 = .ok (.goto 9, 3) := by decide +kernel
theorem dX12_term_158 : decode cX12_term 158 = .ok (.aload_n 0, 1) := by decide +kernel
theorem dX12_term_159 : decode cX12_term 159 = .ok (.getfield 68, 3) := by decide +kernel
theorem dX12_term_162 : decode cX12_term 162 = .ok (.iload_n 1, 1) := by decide +kernel
theorem dX12_term_163 : decode cX12_term 163 = .ok (.iaload, 1) := by decide +kernel
theorem dX12_term_164 : decode cX12_term 164 = .ok (.iastore, 1) := by decide +kernel
theorem dX12_term_165 : decode cX12_term 165 = .ok (.iload 4, 2) := by decide +kernel
theorem dX12_term_167 : decode cX12_term 167 = .ok (.ireturn, 1) := by decide +kernel
theorem dX12_open_0 : decode cX12_open 0 = .ok (.iload_n 1, 1) := by decide +kernel
theorem dX12_open_1 : decode cX12_open 1 = .ok (.invokestatic 367, 3) := by decide +kernel
theorem dX12_open_4 : decode cX12_open 4 = .ok (.ifCond .ne 10, 3) := by decide +kernel
theorem dX12_open_7 : decode cX12_open 7 = .ok (.aload_n 0, 1) := by decide +kernel
theorem dX12_open_8 : decode cX12_open 8 = .ok (.bipush (-2), 2) := by decide +kernel
theorem dX12_open_10 : decode cX12_open 10 = .ok (.invokevirtual 269, 3) := by decide +kernel
theorem dX12_open_13 : decode cX12_open 13 = .ok (.ireturn, 1) := by decide +kernel
theorem dX12_open_14 : decode cX12_open 14 = .ok (.iload_n 2, 1) := by decide +kernel
theorem dX12_open_15 : decode cX12_open 15 = .ok (.iload_n 3, 1) := by decide +kernel
theorem dX12_open_16 : decode cX12_open 16 = .ok (.invokestatic 370, 3) := by decide +kernel
theorem dX12_open_19 : decode cX12_open 19 = .ok (.ifCond .ge 13, 3) := by decide +kernel
theorem dX12_open_22 : decode cX12_open 22 = .ok (.aload_n 0, 1) := by decide +kernel
theorem dX12_open_23 : decode cX12_open 23 = .ok (.iload_n 2, 1) := by decide +kernel
theorem dX12_open_24 : decode cX12_open 24 = .ok (.iload_n 3, 1) := by decide +kernel
theorem dX12_open_25 : decode cX12_open 25 = .ok (.invokestatic 370, 3) := by decide +kernel
theorem dX12_open_28 : decode cX12_open 28 = .ok (.invokevirtual 269, 3) := by decide +kernel
theorem dX12_open_31 : decode cX12_open 31 = .ok (.ireturn, 1) := by decide +kernel
theorem dX12_open_32 : decode cX12_open 32 = .ok (.aload_n 0, 1) := by decide +kernel
theorem dX12_open_33 : decode cX12_open 33 = .ok (.getfield 381, 3) := by decide +kernel
theorem dX12_open_36 : decode cX12_open 36 = .ok (.bipush 40, 2) := by decide +kernel
theorem dX12_open_38 : decode cX12_open 38 = .ok (.if_icmp .ne 10, 3) := by decide +kernel
theorem dX12_open_41 : decode cX12_open 41 = .ok (.aload_n 0, 1) := by decide +kernel
theorem dX12_open_42 : decode cX12_open 42 = .ok (.bipush (-6), 2) := by decide +kernel
theorem dX12_open_44 : decode cX12_open 44 = .ok (.invokevirtual 269, 3) := by decide +kernel
theorem dX12_open_47 : decode cX12_open 47 = .ok (.ireturn, 1) := by decide +kernel
theorem dX12_open_48 : decode cX12_open 48 = .ok (.aload_n 0, 1) := by decide +kernel
theorem dX12_open_49 : decode cX12_open 49 = .ok (.iload_n 1, 1) := by decide +kernel
theorem dX12_open_50 : decode cX12_open 50 = .ok (.iload_n 2, 1) := by decide +kernel
theorem dX12_open_51 : decode cX12_open 51 = .ok (.iload_n 3, 1) := by decide +kernel
theorem dX12_open_52 : decode cX12_open 52 = .ok (.iload 4, 2) := by decide +kernel
theorem dX12_open_54 : decode cX12_open 54 = .ok (.invokevirtual 373, 3) := by decide +kernel
theorem dX12_open_57 : decode cX12_open 57 = .ok (.istore 5, 2) := by decide +kernel
theorem dX12_open_59 : decode cX12_open 59 = .ok (.iload 5, 2) := by decide +kernel
theorem dX12_open_61 : decode cX12_open 61 = .ok (.ifCond .ge 7, 3) := by decide +kernel
theorem dX12_open_64 : decode cX12_open 64 = .ok (.iconst 0, 1) := by decide +kernel
theorem dX12_open_65 : decode cX12_open 65 = .ok (.goto 9, 3) := by decide +kernel
theorem dX12_open_68 : decode cX12_open 68 = .ok (.aload_n 0, 1) := by decide +kernel
theorem dX12_open_69 : decode cX12_open 69 = .ok (.iload 5, 2) := by decide +kernel
theorem dX12_open_71 : decode cX12_open 71 = .ok (.invokevirtual 364, 3) := by decide +kernel
theorem dX12_open_74 : decode cX12_open 74 = .ok (.istore 6, 2) := by decide +kernel
theorem dX12_open_76 : decode cX12_open 76 = .ok (.aload_n 0, 1) := by decide +kernel
theorem dX12_open_77 : decode cX12_open 77 = .ok (.getfield 71, 3) := by decide +kernel
theorem dX12_open_80 : decode cX12_open 80 = .ok (.aload_n 0, 1) := by decide +kernel
theorem dX12_open_81 : decode cX12_open 81 = .ok (.getfield 381, 3) := by decide +kernel
theorem dX12_open_84 : decode cX12_open 84 = .ok (.iload_n 1, 1) := by decide +kernel
theorem dX12_open_85 : decode cX12_open 85 = .ok (.iastore, 1) := by decide +kernel
theorem dX12_open_86 : decode cX12_open 86 = .ok (.aload_n 0, 1) := by decide +kernel
theorem dX12_open_87 : decode cX12_open 87 = .ok (.getfield 74, 3) := by decide +kernel
theorem dX12_open_90 : decode cX12_open 90 = .ok (.aload_n 0, 1) := by decide +kernel
theorem dX12_open_91 : decode cX12_open 91 = .ok (.getfield 381, 3) := by decide +kernel
theorem dX12_open_94 : decode cX12_open 94 = .ok (.iload_n 2, 1) := by decide +kernel
theorem dX12_open_95 : decode cX12_open 95 = .ok (.iastore, 1) := by decide +kernel
theorem dX12_open_96 : decode cX12_open 96 = .ok (.aload_n 0, 1) := by decide +kernel
theorem dX12_open_97 : decode cX12_open 97 = .ok (.getfield 77, 3) := by decide +kernel
theorem dX12_open_100 : decode cX12_open 100 = .ok (.aload_n 0, 1) := by decide +kernel
theorem dX12_open_101 : decode cX12_open 101 = .ok (.getfield 381, 3) := by decide +kernel
theorem dX12_open_104 : decode cX12_open 104 = .ok (.iload_n 3, 1) := by decide +kernel
theorem dX12_open_105 : decode cX12_open 105 = .ok (.iastore, 1) := by decide +kernel
theorem dX12_open_106 : decode cX12_open 106 = .ok (.aload_n 0, 1) := by decide +kernel
theorem dX12_open_107 : decode cX12_open 107 = .ok (.getfield 80, 3) := by decide +kernel
theorem dX12_open_110 : decode cX12_open 110 = .ok (.aload_n 0, 1) := by decide +kernel
theorem dX12_open_111 : decode cX12_open 111 = .ok (.getfield 381, 3) := by decide +kernel
theorem dX12_open_114 : decode cX12_open 114 = .ok (.iload 6, 2) := by decide +kernel
theorem dX12_open_116 : decode cX12_open 116 = .ok (.iastore, 1) := by decide +kernel
theorem dX12_open_117 : decode cX12_open 117 = .ok (.aload_n 0, 1) := by decide +kernel
theorem dX12_open_118 : decode cX12_open 118 = .ok (.getfield 83, 3) := by decide +kernel
theorem dX12_open_121 : decode cX12_open 121 = .ok (.aload_n 0, 1) := by decide +kernel
theorem dX12_open_122 : decode cX12_open 122 = .ok (.getfield 381, 3) := by decide +kernel
theorem dX12_open_125 : decode cX12_open 125 = .ok (.iload 5, 2) := by decide +kernel
theorem dX12_open_127 : decode cX12_open 127 = .ok (.ifCond .ge 8, 3) := by decide +kernel
theorem dX12_open_130 : decode cX12_open 130 = .ok (.bipush (-9), 2) := by decide +kernel
theorem dX12_open_132 : decode cX12_open 132 = .ok (.goto 5, 3) := by decide +kernel
theorem dX12_open_135 : decode cX12_open 135 = .ok (.iload 5, 2) := by decide +kernel
theorem dX12_open_137 : decode cX12_open 137 = .ok (.iastore, 1) := by decide +kernel
theorem dX12_open_138 : decode cX12_open 138 = .ok (.aload_n 0, 1) := by decide +kernel
theorem dX12_open_139 : decode cX12_open 139 = .ok (.getfield 86, 3) := by decide +kernel
theorem dX12_open_142 : decode cX12_open 142 = .ok (.aload_n 0, 1) := by decide +kernel
theorem dX12_open_143 : decode cX12_open 143 = .ok (.getfield 381, 3) := by decide +kernel
theorem dX12_open_146 : decode cX12_open 146 = .ok (.aload_n 0, 1) := by decide +kernel
theorem dX12_open_147 : decode cX12_open 147 = .ok (.getfield 273, 3) := by decide +kernel
theorem dX12_open_150 : decode cX12_open 150 = .ok (.iastore, 1) := by decide +kernel
theorem dX12_open_151 : decode cX12_open 151 = .ok (.aload_n 0, 1) := by decide +kernel
theorem dX12_open_152 : decode cX12_open 152 = .ok (.getfield 89, 3) := by decide +kernel
theorem dX12_open_155 : decode cX12_open 155 = .ok (.aload_n 0, 1) := by decide +kernel
theorem dX12_open_156 : decode cX12_open 156 = .ok (.getfield 381, 3) := by decide +kernel
theorem dX12_open_159 : decode cX12_open 159 = .ok (.aload_n 0, 1) := by decide +kernel
theorem dX12_open_160 : decode cX12_open 160 = .ok (.getfield 62, 3) := by decide +kernel
theorem dX12_open_163 : decode cX12_open 163 = .ok (.iload 6, 2) := by decide +kernel
theorem dX12_open_165 : decode cX12_open 165 = .ok (.iaload, 1) := by decide +kernel
theorem dX12_open_166 : decode cX12_open 166 = .ok (.iastore, 1) := by decide +kernel
theorem dX12_open_167 : decode cX12_open 167 = .ok (.aload_n 0, 1) := by decide +kernel
theorem dX12_open_168 : decode cX12_open 168 = .ok (.getfield 92, 3) := by decide +kernel
theorem dX12_open_171 : decode cX12_open 171 = .ok (.aload_n 0, 1) := by decide +kernel
theorem dX12_open_172 : decode cX12_open 172 = .ok (.getfield 381, 3) := by decide +kernel
theorem dX12_open_175 : decode cX12_open 175 = .ok (.aload_n 0, 1) := by decide +kernel
theorem dX12_open_176 : decode cX12_open 176 = .ok (.getfield 65, 3) := by decide +kernel
theorem dX12_open_179 : decode cX12_open 179 = .ok (.iload 6, 2) := by decide +kernel
theorem dX12_open_181 : decode cX12_open 181 = .ok (.iaload, 1) := by decide +kernel
theorem dX12_open_182 : decode cX12_open 182 = .ok (.iastore, 1) := by decide +kernel
theorem dX12_open_183 : decode cX12_open 183 = .ok (.aload_n 0, 1) := by decide +kernel
theorem dX12_open_184 : decode cX12_open 184 = .ok (.getfield 95, 3) := by decide +kernel
theorem dX12_open_187 : decode cX12_open 187 = .ok (.aload_n 0, 1) := by decide +kernel
theorem dX12_open_188 : decode cX12_open 188 = .ok (.getfield 381, 3) := by decide +kernel
theorem dX12_open_191 : decode cX12_open 191 = .ok (.aload_n 0, 1) := by decide +kernel
theorem dX12_open_192 : decode cX12_open 192 = .ok (.getfield 68, 3) := by decide +kernel
theorem dX12_open_195 : decode cX12_open 195 = .ok (.iload 6, 2) := by decide +kernel
theorem dX12_open_197 : decode cX12_open 197 = .ok (.iaload, 1) := by decide +kernel
theorem dX12_open_198 : decode cX12_open 198 = .ok (.iastore, 1) := by decide +kernel
theorem dX12_open_199 : decode cX12_open 199 = .ok (.aload_n 0, 1) := by decide +kernel
theorem dX12_open_200 : decode cX12_open 200 = .ok (.dup, 1) := by decide +kernel
theorem dX12_open_201 : decode cX12_open 201 = .ok (.getfield 381, 3) := by decide +kernel
theorem dX12_open_204 : decode cX12_open 204 = .ok (.iconst 1, 1) := by decide +kernel
theorem dX12_open_205 : decode cX12_open 205 = .ok (.iadd, 1) := by decide +kernel
theorem dX12_open_206 : decode cX12_open 206 = .ok (.putfield 381, 3) := by decide +kernel
theorem dX12_open_209 : decode cX12_open 209 = .ok (.aload_n 0, 1) := by decide +kernel
theorem dX12_open_210 : decode cX12_open 210 = .ok (.getfield 381, 3) := by decide +kernel
theorem dX12_open_213 : decode cX12_open 213 = .ok (.iconst 1, 1) := by decide +kernel
theorem dX12_open_214 : decode cX12_open 214 = .ok (.isub, 1) := by decide +kernel
theorem dX12_open_215 : decode cX12_open 215 = .ok (.ireturn, 1) := by decide +kernel
theorem dX12_isMatter_0 : decode cX12_isMatter 0 = .ok (.iload_n 1, 1) := by decide +kernel
theorem dX12_isMatter_1 : decode cX12_isMatter 1 = .ok (.iconst 0, 1) := by decide +kernel
theorem dX12_isMatter_2 : decode cX12_isMatter 2 = .ok (.aload_n 0, 1) := by decide +kernel
theorem dX12_isMatter_3 : decode cX12_isMatter 3 = .ok (.getfield 381, 3) := by decide +kernel
theorem dX12_isMatter_6 : decode cX12_isMatter 6 = .ok (.iconst 1, 1) := by decide +kernel
theorem dX12_isMatter_7 : decode cX12_isMatter 7 = .ok (.isub, 1) := by decide +kernel
theorem dX12_isMatter_8 : decode cX12_isMatter 8 = .ok (.invokestatic 262, 3) := by decide +kernel
theorem dX12_isMatter_11 : decode cX12_isMatter 11 = .ok (.ireturn, 1) := by decide +kernel
theorem dX12_tell_0 : decode cX12_tell 0 = .ok (.bipush 30, 2) := by decide +kernel
theorem dX12_tell_2 : decode cX12_tell 2 = .ok (.iload_n 1, 1) := by decide +kernel
theorem dX12_tell_3 : decode cX12_tell 3 = .ok (.imul, 1) := by decide +kernel
theorem dX12_tell_4 : decode cX12_tell 4 = .ok (.aload_n 0, 1) := by decide +kernel
theorem dX12_tell_5 : decode cX12_tell 5 = .ok (.getfield 98, 3) := by decide +kernel
theorem dX12_tell_8 : decode cX12_tell 8 = .ok (.iload_n 1, 1) := by decide +kernel
theorem dX12_tell_9 : decode cX12_tell 9 = .ok (.iaload, 1) := by decide +kernel
theorem dX12_tell_10 : decode cX12_tell 10 = .ok (.iadd, 1) := by decide +kernel
theorem dX12_tell_11 : decode cX12_tell 11 = .ok (.istore 5, 2) := by decide +kernel
theorem dX12_tell_13 : decode cX12_tell 13 = .ok (.aload_n 0, 1) := by decide +kernel
theorem dX12_tell_14 : decode cX12_tell 14 = .ok (.getfield 101, 3) := by decide +kernel
theorem dX12_tell_17 : decode cX12_tell 17 = .ok (.iload 5, 2) := by decide +kernel
theorem dX12_tell_19 : decode cX12_tell 19 = .ok (.iload_n 2, 1) := by decide +kernel
theorem dX12_tell_20 : decode cX12_tell 20 = .ok (.iastore, 1) := by decide +kernel
theorem dX12_tell_21 : decode cX12_tell 21 = .ok (.aload_n 0, 1) := by decide +kernel
theorem dX12_tell_22 : decode cX12_tell 22 = .ok (.getfield 104, 3) := by decide +kernel
theorem dX12_tell_25 : decode cX12_tell 25 = .ok (.iload 5, 2) := by decide +kernel
theorem dX12_tell_27 : decode cX12_tell 27 = .ok (.aload_n 0, 1) := by decide +kernel
theorem dX12_tell_28 : decode cX12_tell 28 = .ok (.getfield 273, 3) := by decide +kernel
theorem dX12_tell_31 : decode cX12_tell 31 = .ok (.iastore, 1) := by decide +kernel
theorem dX12_tell_32 : decode cX12_tell 32 = .ok (.aload_n 0, 1) := by decide +kernel
theorem dX12_tell_33 : decode cX12_tell 33 = .ok (.getfield 107, 3) := by decide +kernel
theorem dX12_tell_36 : decode cX12_tell 36 = .ok (.iload 5, 2) := by decide +kernel
theorem dX12_tell_38 : decode cX12_tell 38 = .ok (.iload_n 3, 1) := by decide +kernel
theorem dX12_tell_39 : decode cX12_tell 39 = .ok (.iastore, 1) := by decide +kernel
theorem dX12_tell_40 : decode cX12_tell 40 = .ok (.aload_n 0, 1) := by decide +kernel
theorem dX12_tell_41 : decode cX12_tell 41 = .ok (.getfield 110, 3) := by decide +kernel
theorem dX12_tell_44 : decode cX12_tell 44 = .ok (.iload 5, 2) := by decide +kernel
theorem dX12_tell_46 : decode cX12_tell 46 = .ok (.iload 4, 2) := by decide +kernel
theorem dX12_tell_48 : decode cX12_tell 48 = .ok (.iastore, 1) := by decide +kernel
theorem dX12_tell_49 : decode cX12_tell 49 = .ok (.aload_n 0, 1) := by decide +kernel
theorem dX12_tell_50 : decode cX12_tell 50 = .ok (.getfield 98, 3) := by decide +kernel
theorem dX12_tell_53 : decode cX12_tell 53 = .ok (.iload_n 1, 1) := by decide +kernel
theorem dX12_tell_54 : decode cX12_tell 54 = .ok (.dup2, 1) := by decide +kernel
theorem dX12_tell_55 : decode cX12_tell 55 = .ok (.iaload, 1) := by decide +kernel
theorem dX12_tell_56 : decode cX12_tell 56 = .ok (.iconst 1, 1) := by decide +kernel
theorem dX12_tell_57 : decode cX12_tell 57 = .ok (.iadd, 1) := by decide +kernel
theorem dX12_tell_58 : decode cX12_tell 58 = .ok (.iastore, 1) := by decide +kernel
theorem dX12_tell_59 : decode cX12_tell 59 = .ok (.return_, 1) := by decide +kernel
theorem dX12_isWithdrawn_0 : decode cX12_isWithdrawn 0 = .ok (.iconst 0, 1) := by decide +kernel
theorem dX12_isWithdrawn_1 : decode cX12_isWithdrawn 1 = .ok (.istore_n 3, 1) := by decide +kernel
theorem dX12_isWithdrawn_2 : decode cX12_isWithdrawn 2 = .ok (.bipush 30, 2) := by decide +kernel
theorem dX12_isWithdrawn_4 : decode cX12_isWithdrawn 4 = .ok (.iload_n 1, 1) := by decide +kernel
theorem dX12_isWithdrawn_5 : decode cX12_isWithdrawn 5 = .ok (.imul, 1) := by decide +kernel
theorem dX12_isWithdrawn_6 : decode cX12_isWithdrawn 6 = .ok (.istore 4, 2) := by decide +kernel
theorem dX12_isWithdrawn_8 : decode cX12_isWithdrawn 8 = .ok (.iload 4, 2) := by decide +kernel
theorem dX12_isWithdrawn_10 : decode cX12_isWithdrawn 10 = .ok (.bipush 30, 2) := by decide +kernel
theorem dX12_isWithdrawn_12 : decode cX12_isWithdrawn 12 = .ok (.iload_n 1, 1) := by decide +kernel
theorem dX12_isWithdrawn_13 : decode cX12_isWithdrawn 13 = .ok (.imul, 1) := by decide +kernel
theorem dX12_isWithdrawn_14 : decode cX12_isWithdrawn 14 = .ok (.aload_n 0, 1) := by decide +kernel
theorem dX12_isWithdrawn_15 : decode cX12_isWithdrawn 15 = .ok (.getfield 98, 3) := by decide +kernel
theorem dX12_isWithdrawn_18 : decode cX12_isWithdrawn 18 = .ok (.iload_n 1, 1) := by decide +kernel
theorem dX12_isWithdrawn_19 : decode cX12_isWithdrawn 19 = .ok (.iaload, 1) := by decide +kernel
theorem dX12_isWithdrawn_20 : decode cX12_isWithdrawn 20 = .ok (.iadd, 1) := by decide +kernel
theorem dX12_isWithdrawn_21 : decode cX12_isWithdrawn 21 = .ok (.if_icmp .ge 41, 3) := by decide +kernel
theorem dX12_isWithdrawn_24 : decode cX12_isWithdrawn 24 = .ok (.iload_n 3, 1) := by decide +kernel
theorem dX12_isWithdrawn_25 : decode cX12_isWithdrawn 25 = .ok (.ifCond .ne 25, 3) := by decide +kernel
theorem dX12_isWithdrawn_28 : decode cX12_isWithdrawn 28 = .ok (.aload_n 0, 1) := by decide +kernel
theorem dX12_isWithdrawn_29 : decode cX12_isWithdrawn 29 = .ok (.getfield 101, 3) := by decide +kernel
theorem dX12_isWithdrawn_32 : decode cX12_isWithdrawn 32 = .ok (.iload 4, 2) := by decide +kernel
theorem dX12_isWithdrawn_34 : decode cX12_isWithdrawn 34 = .ok (.iaload, 1) := by decide +kernel
theorem dX12_isWithdrawn_35 : decode cX12_isWithdrawn 35 = .ok (.iconst 2, 1) := by decide +kernel
theorem dX12_isWithdrawn_36 : decode cX12_isWithdrawn 36 = .ok (.if_icmp .ne 18, 3) := by decide +kernel
theorem dX12_isWithdrawn_39 : decode cX12_isWithdrawn 39 = .ok (.aload_n 0, 1) := by decide +kernel
theorem dX12_isWithdrawn_40 : decode cX12_isWithdrawn 40 = .ok (.getfield 104, 3) := by decide +kernel
theorem dX12_isWithdrawn_43 : decode cX12_isWithdrawn 43 = .ok (.iload 4, 2) := by decide +kernel
theorem dX12_isWithdrawn_45 : decode cX12_isWithdrawn 45 = .ok (.iaload, 1) := by decide +kernel
theorem dX12_isWithdrawn_46 : decode cX12_isWithdrawn 46 = .ok (.iload_n 2, 1) := by decide +kernel
theorem dX12_isWithdrawn_47 : decode cX12_isWithdrawn 47 = .ok (.if_icmp .gt 7, 3) := by decide +kernel
theorem dX12_isWithdrawn_50 : decode cX12_isWithdrawn 50 = .ok (.iconst 1, 1) := by decide +kernel
theorem dX12_isWithdrawn_51 : decode cX12_isWithdrawn 51 = .ok (.goto 4, 3) := by decide +kernel
theorem dX12_isWithdrawn_54 : decode cX12_isWithdrawn 54 = .ok (.iconst 0, 1) := by decide +kernel
theorem dX12_isWithdrawn_55 : decode cX12_isWithdrawn 55 = .ok (.istore_n 3, 1) := by decide +kernel
theorem dX12_isWithdrawn_56 : decode cX12_isWithdrawn 56 = .ok (.iinc 4 1, 3) := by decide +kernel
theorem dX12_isWithdrawn_59 : decode cX12_isWithdrawn 59 = .ok (.goto (-51), 3) := by decide +kernel
theorem dX12_isWithdrawn_62 : decode cX12_isWithdrawn 62 = .ok (.iload_n 3, 1) := by decide +kernel
theorem dX12_isWithdrawn_63 : decode cX12_isWithdrawn 63 = .ok (.ireturn, 1) := by decide +kernel
theorem dX12_givenOn_0 : decode cX12_givenOn 0 = .ok (.iconst (-1), 1) := by decide +kernel
theorem dX12_givenOn_1 : decode cX12_givenOn 1 = .ok (.istore 5, 2) := by decide +kernel
theorem dX12_givenOn_3 : decode cX12_givenOn 3 = .ok (.bipush 30, 2) := by decide +kernel
theorem dX12_givenOn_5 : decode cX12_givenOn 5 = .ok (.iload_n 1, 1) := by decide +kernel
theorem dX12_givenOn_6 : decode cX12_givenOn 6 = .ok (.imul, 1) := by decide +kernel
theorem dX12_givenOn_7 : decode cX12_givenOn 7 = .ok (.istore 6, 2) := by decide +kernel
theorem dX12_givenOn_9 : decode cX12_givenOn 9 = .ok (.iload 6, 2) := by decide +kernel
theorem dX12_givenOn_11 : decode cX12_givenOn 11 = .ok (.bipush 30, 2) := by decide +kernel
theorem dX12_givenOn_13 : decode cX12_givenOn 13 = .ok (.iload_n 1, 1) := by decide +kernel
theorem dX12_givenOn_14 : decode cX12_givenOn 14 = .ok (.imul, 1) := by decide +kernel
theorem dX12_givenOn_15 : decode cX12_givenOn 15 = .ok (.aload_n 0, 1) := by decide +kernel
theorem dX12_givenOn_16 : decode cX12_givenOn 16 = .ok (.getfield 98, 3) := by decide +kernel
theorem dX12_givenOn_19 : decode cX12_givenOn 19 = .ok (.iload_n 1, 1) := by decide +kernel
theorem dX12_givenOn_20 : decode cX12_givenOn 20 = .ok (.iaload, 1) := by decide +kernel
theorem dX12_givenOn_21 : decode cX12_givenOn 21 = .ok (.iadd, 1) := by decide +kernel
theorem dX12_givenOn_22 : decode cX12_givenOn 22 = .ok (.if_icmp .ge 92, 3) := by decide +kernel
theorem dX12_givenOn_25 : decode cX12_givenOn 25 = .ok (.aload_n 0, 1) := by decide +kernel
theorem dX12_givenOn_26 : decode cX12_givenOn 26 = .ok (.getfield 107, 3) := by decide +kernel
theorem dX12_givenOn_29 : decode cX12_givenOn 29 = .ok (.iload 6, 2) := by decide +kernel
theorem dX12_givenOn_31 : decode cX12_givenOn 31 = .ok (.iaload, 1) := by decide +kernel
theorem dX12_givenOn_32 : decode cX12_givenOn 32 = .ok (.iload_n 2, 1) := by decide +kernel
theorem dX12_givenOn_33 : decode cX12_givenOn 33 = .ok (.if_icmp .ne 38, 3) := by decide +kernel
theorem dX12_givenOn_36 : decode cX12_givenOn 36 = .ok (.aload_n 0, 1) := by decide +kernel
theorem dX12_givenOn_37 : decode cX12_givenOn 37 = .ok (.getfield 101, 3) := by decide +kernel
theorem dX12_givenOn_40 : decode cX12_givenOn 40 = .ok (.iload 6, 2) := by decide +kernel
theorem dX12_givenOn_42 : decode cX12_givenOn 42 = .ok (.iaload, 1) := by decide +kernel
theorem dX12_givenOn_43 : decode cX12_givenOn 43 = .ok (.ifCond .ne 28, 3) := by decide +kernel
theorem dX12_givenOn_46 : decode cX12_givenOn 46 = .ok (.aload_n 0, 1) := by decide +kernel
theorem dX12_givenOn_47 : decode cX12_givenOn 47 = .ok (.getfield 104, 3) := by decide +kernel
theorem dX12_givenOn_50 : decode cX12_givenOn 50 = .ok (.iload 6, 2) := by decide +kernel
theorem dX12_givenOn_52 : decode cX12_givenOn 52 = .ok (.iaload, 1) := by decide +kernel
theorem dX12_givenOn_53 : decode cX12_givenOn 53 = .ok (.iload_n 3, 1) := by decide +kernel
theorem dX12_givenOn_54 : decode cX12_givenOn 54 = .ok (.if_icmp .gt 17, 3) := by decide +kernel
theorem dX12_givenOn_57 : decode cX12_givenOn 57 = .ok (.iload 5, 2) := by decide +kernel
theorem dX12_givenOn_59 : decode cX12_givenOn 59 = .ok (.ifCond .ge 12, 3) := by decide +kernel
theorem dX12_givenOn_62 : decode cX12_givenOn 62 = .ok (.aload_n 0, 1) := by decide +kernel
theorem dX12_givenOn_63 : decode cX12_givenOn 63 = .ok (.getfield 104, 3) := by decide +kernel
theorem dX12_givenOn_66 : decode cX12_givenOn 66 = .ok (.iload 6, 2) := by decide +kernel
theorem dX12_givenOn_68 : decode cX12_givenOn 68 = .ok (.iaload, 1) := by decide +kernel
theorem dX12_givenOn_69 : decode cX12_givenOn 69 = .ok (.istore 5, 2) := by decide +kernel
theorem dX12_givenOn_71 : decode cX12_givenOn 71 = .ok (.aload_n 0, 1) := by decide +kernel
theorem dX12_givenOn_72 : decode cX12_givenOn 72 = .ok (.getfield 107, 3) := by decide +kernel
theorem dX12_givenOn_75 : decode cX12_givenOn 75 = .ok (.iload 6, 2) := by decide +kernel
theorem dX12_givenOn_77 : decode cX12_givenOn 77 = .ok (.iaload, 1) := by decide +kernel
theorem dX12_givenOn_78 : decode cX12_givenOn 78 = .ok (.iload_n 2, 1) := by decide +kernel
theorem dX12_givenOn_79 : decode cX12_givenOn 79 = .ok (.if_icmp .ne 29, 3) := by decide +kernel
theorem dX12_givenOn_82 : decode cX12_givenOn 82 = .ok (.aload_n 0, 1) := by decide +kernel
theorem dX12_givenOn_83 : decode cX12_givenOn 83 = .ok (.getfield 101, 3) := by decide +kernel
theorem dX12_givenOn_86 : decode cX12_givenOn 86 = .ok (.iload 6, 2) := by decide +kernel
theorem dX12_givenOn_88 : decode cX12_givenOn 88 = .ok (.iaload, 1) := by decide +kernel
theorem dX12_givenOn_89 : decode cX12_givenOn 89 = .ok (.iconst 1, 1) := by decide +kernel
theorem dX12_givenOn_90 : decode cX12_givenOn 90 = .ok (.if_icmp .ne 18, 3) := by decide +kernel
theorem dX12_givenOn_93 : decode cX12_givenOn 93 = .ok (.aload_n 0, 1) := by decide +kernel
theorem dX12_givenOn_94 : decode cX12_givenOn 94 = .ok (.getfield 104, 3) := by decide +kernel
theorem dX12_givenOn_97 : decode cX12_givenOn 97 = .ok (.iload 6, 2) := by decide +kernel
theorem dX12_givenOn_99 : decode cX12_givenOn 99 = .ok (.iaload, 1) := by decide +kernel
theorem dX12_givenOn_100 : decode cX12_givenOn 100 = .ok (.iload 4, 2) := by decide +kernel
theorem dX12_givenOn_102 : decode cX12_givenOn 102 = .ok (.if_icmp .gt 6, 3) := by decide +kernel
theorem dX12_givenOn_105 : decode cX12_givenOn 105 = .ok (.iconst (-1), 1) := by decide +kernel
theorem dX12_givenOn_106 : decode cX12_givenOn 106 = .ok (.istore 5, 2) := by decide +kernel
theorem dX12_givenOn_108 : decode cX12_givenOn 108 = .ok (.iinc 6 1, 3) := by decide +kernel
theorem dX12_givenOn_111 : decode cX12_givenOn 111 = .ok (.goto (-102), 3) := by decide +kernel
theorem dX12_givenOn_114 : decode cX12_givenOn 114 = .ok (.iload 5, 2) := by decide +kernel
theorem dX12_givenOn_116 : decode cX12_givenOn 116 = .ok (.ireturn, 1) := by decide +kernel
theorem dX12_wholeSince_0 : decode cX12_wholeSince 0 = .ok (.aload_n 0, 1) := by decide +kernel
theorem dX12_wholeSince_1 : decode cX12_wholeSince 1 = .ok (.getfield 86, 3) := by decide +kernel
theorem dX12_wholeSince_4 : decode cX12_wholeSince 4 = .ok (.iload_n 1, 1) := by decide +kernel
theorem dX12_wholeSince_5 : decode cX12_wholeSince 5 = .ok (.iaload, 1) := by decide +kernel
theorem dX12_wholeSince_6 : decode cX12_wholeSince 6 = .ok (.istore 4, 2) := by decide +kernel
theorem dX12_wholeSince_8 : decode cX12_wholeSince 8 = .ok (.iconst 0, 1) := by decide +kernel
theorem dX12_wholeSince_9 : decode cX12_wholeSince 9 = .ok (.istore 5, 2) := by decide +kernel
theorem dX12_wholeSince_11 : decode cX12_wholeSince 11 = .ok (.iload 5, 2) := by decide +kernel
theorem dX12_wholeSince_13 : decode cX12_wholeSince 13 = .ok (.bipush 8, 2) := by decide +kernel
theorem dX12_wholeSince_15 : decode cX12_wholeSince 15 = .ok (.if_icmp .ge 65, 3) := by decide +kernel
theorem dX12_wholeSince_18 : decode cX12_wholeSince 18 = .ok (.aload_n 0, 1) := by decide +kernel
theorem dX12_wholeSince_19 : decode cX12_wholeSince 19 = .ok (.getfield 89, 3) := by decide +kernel
theorem dX12_wholeSince_22 : decode cX12_wholeSince 22 = .ok (.iload_n 1, 1) := by decide +kernel
theorem dX12_wholeSince_23 : decode cX12_wholeSince 23 = .ok (.iaload, 1) := by decide +kernel
theorem dX12_wholeSince_24 : decode cX12_wholeSince 24 = .ok (.iload 5, 2) := by decide +kernel
theorem dX12_wholeSince_26 : decode cX12_wholeSince 26 = .ok (.ishr, 1) := by decide +kernel
theorem dX12_wholeSince_27 : decode cX12_wholeSince 27 = .ok (.iconst 1, 1) := by decide +kernel
theorem dX12_wholeSince_28 : decode cX12_wholeSince 28 = .ok (.iand, 1) := by decide +kernel
theorem dX12_wholeSince_29 : decode cX12_wholeSince 29 = .ok (.iconst 1, 1) := by decide +kernel
theorem dX12_wholeSince_30 : decode cX12_wholeSince 30 = .ok (.if_icmp .ne 44, 3) := by decide +kernel
theorem dX12_wholeSince_33 : decode cX12_wholeSince 33 = .ok (.aload_n 0, 1) := by decide +kernel
theorem dX12_wholeSince_34 : decode cX12_wholeSince 34 = .ok (.iload_n 1, 1) := by decide +kernel
theorem dX12_wholeSince_35 : decode cX12_wholeSince 35 = .ok (.iload 5, 2) := by decide +kernel
theorem dX12_wholeSince_37 : decode cX12_wholeSince 37 = .ok (.iload_n 2, 1) := by decide +kernel
theorem dX12_wholeSince_38 : decode cX12_wholeSince 38 = .ok (.iload_n 3, 1) := by decide +kernel
theorem dX12_wholeSince_39 : decode cX12_wholeSince 39 = .ok (.invokevirtual 384, 3) := by decide +kernel
theorem dX12_wholeSince_42 : decode cX12_wholeSince 42 = .ok (.istore 6, 2) := by decide +kernel
theorem dX12_wholeSince_44 : decode cX12_wholeSince 44 = .ok (.iload 6, 2) := by decide +kernel
theorem dX12_wholeSince_46 : decode cX12_wholeSince 46 = .ok (.ifCond .lt 8, 3) := by decide +kernel
theorem dX12_wholeSince_49 : decode cX12_wholeSince 49 = .ok (.iload 4, 2) := by decide +kernel
theorem dX12_wholeSince_51 : decode cX12_wholeSince 51 = .ok (.ifCond .ge 7, 3) := by decide +kernel
theorem dX12_wholeSince_54 : decode cX12_wholeSince 54 = .ok (.iconst (-1), 1) := by decide +kernel
theorem dX12_wholeSince_55 : decode cX12_wholeSince 55 = .ok (.goto 17, 3) := by decide +kernel
theorem dX12_wholeSince_58 : decode cX12_wholeSince 58 = .ok (.iload 6, 2) := by decide +kernel
theorem dX12_wholeSince_60 : decode cX12_wholeSince 60 = .ok (.iload 4, 2) := by decide +kernel
theorem dX12_wholeSince_62 : decode cX12_wholeSince 62 = .ok (.if_icmp .le 8, 3) := by decide +kernel
theorem dX12_wholeSince_65 : decode cX12_wholeSince 65 = .ok (.iload 6, 2) := by decide +kernel
theorem dX12_wholeSince_67 : decode cX12_wholeSince 67 = .ok (.goto 5, 3) := by decide +kernel
theorem dX12_wholeSince_70 : decode cX12_wholeSince 70 = .ok (.iload 4, 2) := by decide +kernel
theorem dX12_wholeSince_72 : decode cX12_wholeSince 72 = .ok (.istore 4, 2) := by decide +kernel
theorem dX12_wholeSince_74 : decode cX12_wholeSince 74 = .ok (.iinc 5 1, 3) := by decide +kernel
theorem dX12_wholeSince_77 : decode cX12_wholeSince 77 = .ok (.goto (-66), 3) := by decide +kernel
theorem dX12_wholeSince_80 : decode cX12_wholeSince 80 = .ok (.iload 4, 2) := by decide +kernel
theorem dX12_wholeSince_82 : decode cX12_wholeSince 82 = .ok (.ireturn, 1) := by decide +kernel
theorem dX12_ruling_0 : decode cX12_ruling 0 = .ok (.iconst (-1), 1) := by decide +kernel
theorem dX12_ruling_1 : decode cX12_ruling 1 = .ok (.istore 4, 2) := by decide +kernel
theorem dX12_ruling_3 : decode cX12_ruling 3 = .ok (.bipush 30, 2) := by decide +kernel
theorem dX12_ruling_5 : decode cX12_ruling 5 = .ok (.iload_n 1, 1) := by decide +kernel
theorem dX12_ruling_6 : decode cX12_ruling 6 = .ok (.imul, 1) := by decide +kernel
theorem dX12_ruling_7 : decode cX12_ruling 7 = .ok (.istore 5, 2) := by decide +kernel
theorem dX12_ruling_9 : decode cX12_ruling 9 = .ok (.iload 5, 2) := by decide +kernel
theorem dX12_ruling_11 : decode cX12_ruling 11 = .ok (.bipush 30, 2) := by decide +kernel
theorem dX12_ruling_13 : decode cX12_ruling 13 = .ok (.iload_n 1, 1) := by decide +kernel
theorem dX12_ruling_14 : decode cX12_ruling 14 = .ok (.imul, 1) := by decide +kernel
theorem dX12_ruling_15 : decode cX12_ruling 15 = .ok (.aload_n 0, 1) := by decide +kernel
theorem dX12_ruling_16 : decode cX12_ruling 16 = .ok (.getfield 98, 3) := by decide +kernel
theorem dX12_ruling_19 : decode cX12_ruling 19 = .ok (.iload_n 1, 1) := by decide +kernel
theorem dX12_ruling_20 : decode cX12_ruling 20 = .ok (.iaload, 1) := by decide +kernel
theorem dX12_ruling_21 : decode cX12_ruling 21 = .ok (.iadd, 1) := by decide +kernel
theorem dX12_ruling_22 : decode cX12_ruling 22 = .ok (.if_icmp .ge 71, 3) := by decide +kernel
theorem dX12_ruling_25 : decode cX12_ruling 25 = .ok (.aload_n 0, 1) := by decide +kernel
theorem dX12_ruling_26 : decode cX12_ruling 26 = .ok (.getfield 101, 3) := by decide +kernel
theorem dX12_ruling_29 : decode cX12_ruling 29 = .ok (.iload 5, 2) := by decide +kernel
theorem dX12_ruling_31 : decode cX12_ruling 31 = .ok (.iaload, 1) := by decide +kernel
theorem dX12_ruling_32 : decode cX12_ruling 32 = .ok (.iconst 4, 1) := by decide +kernel
theorem dX12_ruling_33 : decode cX12_ruling 33 = .ok (.if_icmp .ne 24, 3) := by decide +kernel
theorem dX12_ruling_36 : decode cX12_ruling 36 = .ok (.aload_n 0, 1) := by decide +kernel
theorem dX12_ruling_37 : decode cX12_ruling 37 = .ok (.getfield 104, 3) := by decide +kernel
theorem dX12_ruling_40 : decode cX12_ruling 40 = .ok (.iload 5, 2) := by decide +kernel
theorem dX12_ruling_42 : decode cX12_ruling 42 = .ok (.iaload, 1) := by decide +kernel
theorem dX12_ruling_43 : decode cX12_ruling 43 = .ok (.iload_n 2, 1) := by decide +kernel
theorem dX12_ruling_44 : decode cX12_ruling 44 = .ok (.if_icmp .gt 13, 3) := by decide +kernel
theorem dX12_ruling_47 : decode cX12_ruling 47 = .ok (.aload_n 0, 1) := by decide +kernel
theorem dX12_ruling_48 : decode cX12_ruling 48 = .ok (.getfield 107, 3) := by decide +kernel
theorem dX12_ruling_51 : decode cX12_ruling 51 = .ok (.iload 5, 2) := by decide +kernel
theorem dX12_ruling_53 : decode cX12_ruling 53 = .ok (.iaload, 1) := by decide +kernel
theorem dX12_ruling_54 : decode cX12_ruling 54 = .ok (.goto 31, 3) := by decide +kernel
theorem dX12_ruling_57 : decode cX12_ruling 57 = .ok (.aload_n 0, 1) := by decide +kernel
theorem dX12_ruling_58 : decode cX12_ruling 58 = .ok (.getfield 101, 3) := by decide +kernel
theorem dX12_ruling_61 : decode cX12_ruling 61 = .ok (.iload 5, 2) := by decide +kernel
theorem dX12_ruling_63 : decode cX12_ruling 63 = .ok (.iaload, 1) := by decide +kernel
theorem dX12_ruling_64 : decode cX12_ruling 64 = .ok (.iconst 5, 1) := by decide +kernel
theorem dX12_ruling_65 : decode cX12_ruling 65 = .ok (.if_icmp .ne 18, 3) := by decide +kernel
theorem dX12_ruling_68 : decode cX12_ruling 68 = .ok (.aload_n 0, 1) := by decide +kernel
theorem dX12_ruling_69 : decode cX12_ruling 69 = .ok (.getfield 104, 3) := by decide +kernel
theorem dX12_ruling_72 : decode cX12_ruling 72 = .ok (.iload 5, 2) := by decide +kernel
theorem dX12_ruling_74 : decode cX12_ruling 74 = .ok (.iaload, 1) := by decide +kernel
theorem dX12_ruling_75 : decode cX12_ruling 75 = .ok (.iload_n 3, 1) := by decide +kernel
theorem dX12_ruling_76 : decode cX12_ruling 76 = .ok (.if_icmp .gt 7, 3) := by decide +kernel
theorem dX12_ruling_79 : decode cX12_ruling 79 = .ok (.iconst (-1), 1) := by decide +kernel
theorem dX12_ruling_80 : decode cX12_ruling 80 = .ok (.goto 5, 3) := by decide +kernel
theorem dX12_ruling_83 : decode cX12_ruling 83 = .ok (.iload 4, 2) := by decide +kernel
theorem dX12_ruling_85 : decode cX12_ruling 85 = .ok (.istore 4, 2) := by decide +kernel
theorem dX12_ruling_87 : decode cX12_ruling 87 = .ok (.iinc 5 1, 3) := by decide +kernel
theorem dX12_ruling_90 : decode cX12_ruling 90 = .ok (.goto (-81), 3) := by decide +kernel
theorem dX12_ruling_93 : decode cX12_ruling 93 = .ok (.iload 4, 2) := by decide +kernel
theorem dX12_ruling_95 : decode cX12_ruling 95 = .ok (.ireturn, 1) := by decide +kernel
theorem dX12_answer_0 : decode cX12_answer 0 = .ok (.iconst (-1), 1) := by decide +kernel
theorem dX12_answer_1 : decode cX12_answer 1 = .ok (.istore 4, 2) := by decide +kernel
theorem dX12_answer_3 : decode cX12_answer 3 = .ok (.bipush 30, 2) := by decide +kernel
theorem dX12_answer_5 : decode cX12_answer 5 = .ok (.iload_n 1, 1) := by decide +kernel
theorem dX12_answer_6 : decode cX12_answer 6 = .ok (.imul, 1) := by decide +kernel
theorem dX12_answer_7 : decode cX12_answer 7 = .ok (.istore 5, 2) := by decide +kernel
theorem dX12_answer_9 : decode cX12_answer 9 = .ok (.iload 5, 2) := by decide +kernel
theorem dX12_answer_11 : decode cX12_answer 11 = .ok (.bipush 30, 2) := by decide +kernel
theorem dX12_answer_13 : decode cX12_answer 13 = .ok (.iload_n 1, 1) := by decide +kernel
theorem dX12_answer_14 : decode cX12_answer 14 = .ok (.imul, 1) := by decide +kernel
theorem dX12_answer_15 : decode cX12_answer 15 = .ok (.aload_n 0, 1) := by decide +kernel
theorem dX12_answer_16 : decode cX12_answer 16 = .ok (.getfield 98, 3) := by decide +kernel
theorem dX12_answer_19 : decode cX12_answer 19 = .ok (.iload_n 1, 1) := by decide +kernel
theorem dX12_answer_20 : decode cX12_answer 20 = .ok (.iaload, 1) := by decide +kernel
theorem dX12_answer_21 : decode cX12_answer 21 = .ok (.iadd, 1) := by decide +kernel
theorem dX12_answer_22 : decode cX12_answer 22 = .ok (.if_icmp .ge 61, 3) := by decide +kernel
theorem dX12_answer_25 : decode cX12_answer 25 = .ok (.aload_n 0, 1) := by decide +kernel
theorem dX12_answer_26 : decode cX12_answer 26 = .ok (.getfield 101, 3) := by decide +kernel
theorem dX12_answer_29 : decode cX12_answer 29 = .ok (.iload 5, 2) := by decide +kernel
theorem dX12_answer_31 : decode cX12_answer 31 = .ok (.iaload, 1) := by decide +kernel
theorem dX12_answer_32 : decode cX12_answer 32 = .ok (.iconst 3, 1) := by decide +kernel
theorem dX12_answer_33 : decode cX12_answer 33 = .ok (.if_icmp .ne 40, 3) := by decide +kernel
theorem dX12_answer_36 : decode cX12_answer 36 = .ok (.aload_n 0, 1) := by decide +kernel
theorem dX12_answer_37 : decode cX12_answer 37 = .ok (.getfield 104, 3) := by decide +kernel
theorem dX12_answer_40 : decode cX12_answer 40 = .ok (.iload 5, 2) := by decide +kernel
theorem dX12_answer_42 : decode cX12_answer 42 = .ok (.iaload, 1) := by decide +kernel
theorem dX12_answer_43 : decode cX12_answer 43 = .ok (.iload_n 2, 1) := by decide +kernel
theorem dX12_answer_44 : decode cX12_answer 44 = .ok (.if_icmp .gt 29, 3) := by decide +kernel
theorem dX12_answer_47 : decode cX12_answer 47 = .ok (.aload_n 0, 1) := by decide +kernel
theorem dX12_answer_48 : decode cX12_answer 48 = .ok (.getfield 134, 3) := by decide +kernel
theorem dX12_answer_51 : decode cX12_answer 51 = .ok (.aload_n 0, 1) := by decide +kernel
theorem dX12_answer_52 : decode cX12_answer 52 = .ok (.getfield 110, 3) := by decide +kernel
theorem dX12_answer_55 : decode cX12_answer 55 = .ok (.iload 5, 2) := by decide +kernel
theorem dX12_answer_57 : decode cX12_answer 57 = .ok (.iaload, 1) := by decide +kernel
theorem dX12_answer_58 : decode cX12_answer 58 = .ok (.iaload, 1) := by decide +kernel
theorem dX12_answer_59 : decode cX12_answer 59 = .ok (.iload_n 3, 1) := by decide +kernel
theorem dX12_answer_60 : decode cX12_answer 60 = .ok (.if_icmp .le 13, 3) := by decide +kernel
theorem dX12_answer_63 : decode cX12_answer 63 = .ok (.aload_n 0, 1) := by decide +kernel
theorem dX12_answer_64 : decode cX12_answer 64 = .ok (.getfield 107, 3) := by decide +kernel
theorem dX12_answer_67 : decode cX12_answer 67 = .ok (.iload 5, 2) := by decide +kernel
theorem dX12_answer_69 : decode cX12_answer 69 = .ok (.iaload, 1) := by decide +kernel
theorem dX12_answer_70 : decode cX12_answer 70 = .ok (.goto 5, 3) := by decide +kernel
theorem dX12_answer_73 : decode cX12_answer 73 = .ok (.iload 4, 2) := by decide +kernel
theorem dX12_answer_75 : decode cX12_answer 75 = .ok (.istore 4, 2) := by decide +kernel
theorem dX12_answer_77 : decode cX12_answer 77 = .ok (.iinc 5 1, 3) := by decide +kernel
theorem dX12_answer_80 : decode cX12_answer 80 = .ok (.goto (-71), 3) := by decide +kernel
theorem dX12_answer_83 : decode cX12_answer 83 = .ok (.iload 4, 2) := by decide +kernel
theorem dX12_answer_85 : decode cX12_answer 85 = .ok (.ireturn, 1) := by decide +kernel
theorem dX12_stateOf_0 : decode cX12_stateOf 0 = .ok (.aload_n 0, 1) := by decide +kernel
theorem dX12_stateOf_1 : decode cX12_stateOf 1 = .ok (.iload_n 1, 1) := by decide +kernel
theorem dX12_stateOf_2 : decode cX12_stateOf 2 = .ok (.iload_n 2, 1) := by decide +kernel
theorem dX12_stateOf_3 : decode cX12_stateOf 3 = .ok (.invokevirtual 388, 3) := by decide +kernel
theorem dX12_stateOf_6 : decode cX12_stateOf 6 = .ok (.ifCond .eq 5, 3) := by decide +kernel
theorem dX12_stateOf_9 : decode cX12_stateOf 9 = .ok (.iconst 1, 1) := by decide +kernel
theorem dX12_stateOf_10 : decode cX12_stateOf 10 = .ok (.ireturn, 1) := by decide +kernel
theorem dX12_stateOf_11 : decode cX12_stateOf 11 = .ok (.aload_n 0, 1) := by decide +kernel
theorem dX12_stateOf_12 : decode cX12_stateOf 12 = .ok (.getfield 80, 3) := by decide +kernel
theorem dX12_stateOf_15 : decode cX12_stateOf 15 = .ok (.iload_n 1, 1) := by decide +kernel
theorem dX12_stateOf_16 : decode cX12_stateOf 16 = .ok (.iaload, 1) := by decide +kernel
theorem dX12_stateOf_17 : decode cX12_stateOf 17 = .ok (.ifCond .ne 5, 3) := by decide +kernel
theorem dX12_stateOf_20 : decode cX12_stateOf 20 = .ok (.iconst 0, 1) := by decide +kernel
theorem dX12_stateOf_21 : decode cX12_stateOf 21 = .ok (.ireturn, 1) := by decide +kernel
theorem dX12_stateOf_22 : decode cX12_stateOf 22 = .ok (.aload_n 0, 1) := by decide +kernel
theorem dX12_stateOf_23 : decode cX12_stateOf 23 = .ok (.iload_n 1, 1) := by decide +kernel
theorem dX12_stateOf_24 : decode cX12_stateOf 24 = .ok (.iload_n 2, 1) := by decide +kernel
theorem dX12_stateOf_25 : decode cX12_stateOf 25 = .ok (.iload_n 3, 1) := by decide +kernel
theorem dX12_stateOf_26 : decode cX12_stateOf 26 = .ok (.invokevirtual 392, 3) := by decide +kernel
theorem dX12_stateOf_29 : decode cX12_stateOf 29 = .ok (.ifCond .lt 14, 3) := by decide +kernel
theorem dX12_stateOf_32 : decode cX12_stateOf 32 = .ok (.bipush 9, 2) := by decide +kernel
theorem dX12_stateOf_34 : decode cX12_stateOf 34 = .ok (.aload_n 0, 1) := by decide +kernel
theorem dX12_stateOf_35 : decode cX12_stateOf 35 = .ok (.iload_n 1, 1) := by decide +kernel
theorem dX12_stateOf_36 : decode cX12_stateOf 36 = .ok (.iload_n 2, 1) := by decide +kernel
theorem dX12_stateOf_37 : decode cX12_stateOf 37 = .ok (.iload_n 3, 1) := by decide +kernel
theorem dX12_stateOf_38 : decode cX12_stateOf 38 = .ok (.invokevirtual 392, 3) := by decide +kernel
theorem dX12_stateOf_41 : decode cX12_stateOf 41 = .ok (.isub, 1) := by decide +kernel
theorem dX12_stateOf_42 : decode cX12_stateOf 42 = .ok (.ireturn, 1) := by decide +kernel
theorem dX12_stateOf_43 : decode cX12_stateOf 43 = .ok (.aload_n 0, 1) := by decide +kernel
theorem dX12_stateOf_44 : decode cX12_stateOf 44 = .ok (.iload_n 1, 1) := by decide +kernel
theorem dX12_stateOf_45 : decode cX12_stateOf 45 = .ok (.iload_n 2, 1) := by decide +kernel
theorem dX12_stateOf_46 : decode cX12_stateOf 46 = .ok (.iload_n 3, 1) := by decide +kernel
theorem dX12_stateOf_47 : decode cX12_stateOf 47 = .ok (.invokevirtual 396, 3) := by decide +kernel
theorem dX12_stateOf_50 : decode cX12_stateOf 50 = .ok (.ifCond .lt 13, 3) := by decide +kernel
theorem dX12_stateOf_53 : decode cX12_stateOf 53 = .ok (.iconst 5, 1) := by decide +kernel
theorem dX12_stateOf_54 : decode cX12_stateOf 54 = .ok (.aload_n 0, 1) := by decide +kernel
theorem dX12_stateOf_55 : decode cX12_stateOf 55 = .ok (.iload_n 1, 1) := by decide +kernel
theorem dX12_stateOf_56 : decode cX12_stateOf 56 = .ok (.iload_n 2, 1) := by decide +kernel
theorem dX12_stateOf_57 : decode cX12_stateOf 57 = .ok (.iload_n 3, 1) := by decide +kernel
theorem dX12_stateOf_58 : decode cX12_stateOf 58 = .ok (.invokevirtual 396, 3) := by decide +kernel
theorem dX12_stateOf_61 : decode cX12_stateOf 61 = .ok (.isub, 1) := by decide +kernel
theorem dX12_stateOf_62 : decode cX12_stateOf 62 = .ok (.ireturn, 1) := by decide +kernel
theorem dX12_stateOf_63 : decode cX12_stateOf 63 = .ok (.aload_n 0, 1) := by decide +kernel
theorem dX12_stateOf_64 : decode cX12_stateOf 64 = .ok (.iload_n 1, 1) := by decide +kernel
theorem dX12_stateOf_65 : decode cX12_stateOf 65 = .ok (.iload_n 2, 1) := by decide +kernel
theorem dX12_stateOf_66 : decode cX12_stateOf 66 = .ok (.iload_n 3, 1) := by decide +kernel
theorem dX12_stateOf_67 : decode cX12_stateOf 67 = .ok (.invokevirtual 399, 3) := by decide +kernel
theorem dX12_stateOf_70 : decode cX12_stateOf 70 = .ok (.istore 4, 2) := by decide +kernel
theorem dX12_stateOf_72 : decode cX12_stateOf 72 = .ok (.iload 4, 2) := by decide +kernel
theorem dX12_stateOf_74 : decode cX12_stateOf 74 = .ok (.ifCond .ge 5, 3) := by decide +kernel
theorem dX12_stateOf_77 : decode cX12_stateOf 77 = .ok (.iconst 2, 1) := by decide +kernel
theorem dX12_stateOf_78 : decode cX12_stateOf 78 = .ok (.ireturn, 1) := by decide +kernel
theorem dX12_stateOf_79 : decode cX12_stateOf 79 = .ok (.aload_n 0, 1) := by decide +kernel
theorem dX12_stateOf_80 : decode cX12_stateOf 80 = .ok (.getfield 80, 3) := by decide +kernel
theorem dX12_stateOf_83 : decode cX12_stateOf 83 = .ok (.iload_n 1, 1) := by decide +kernel
theorem dX12_stateOf_84 : decode cX12_stateOf 84 = .ok (.iaload, 1) := by decide +kernel
theorem dX12_stateOf_85 : decode cX12_stateOf 85 = .ok (.iconst 1, 1) := by decide +kernel
theorem dX12_stateOf_86 : decode cX12_stateOf 86 = .ok (.if_icmp .ne 6, 3) := by decide +kernel
theorem dX12_stateOf_89 : decode cX12_stateOf 89 = .ok (.bipush 6, 2) := by decide +kernel
theorem dX12_stateOf_91 : decode cX12_stateOf 91 = .ok (.ireturn, 1) := by decide +kernel
theorem dX12_stateOf_92 : decode cX12_stateOf 92 = .ok (.aload_n 0, 1) := by decide +kernel
theorem dX12_stateOf_93 : decode cX12_stateOf 93 = .ok (.iload 4, 2) := by decide +kernel
theorem dX12_stateOf_95 : decode cX12_stateOf 95 = .ok (.iload_n 2, 1) := by decide +kernel
theorem dX12_stateOf_96 : decode cX12_stateOf 96 = .ok (.invokevirtual 276, 3) := by decide +kernel
theorem dX12_stateOf_99 : decode cX12_stateOf 99 = .ok (.aload_n 0, 1) := by decide +kernel
theorem dX12_stateOf_100 : decode cX12_stateOf 100 = .ok (.getfield 92, 3) := by decide +kernel
theorem dX12_stateOf_103 : decode cX12_stateOf 103 = .ok (.iload_n 1, 1) := by decide +kernel
theorem dX12_stateOf_104 : decode cX12_stateOf 104 = .ok (.iaload, 1) := by decide +kernel
theorem dX12_stateOf_105 : decode cX12_stateOf 105 = .ok (.if_icmp .gt 7, 3) := by decide +kernel
theorem dX12_stateOf_108 : decode cX12_stateOf 108 = .ok (.iconst 3, 1) := by decide +kernel
theorem dX12_stateOf_109 : decode cX12_stateOf 109 = .ok (.goto 20, 3) := by decide +kernel
theorem dX12_stateOf_112 : decode cX12_stateOf 112 = .ok (.aload_n 0, 1) := by decide +kernel
theorem dX12_stateOf_113 : decode cX12_stateOf 113 = .ok (.getfield 95, 3) := by decide +kernel
theorem dX12_stateOf_116 : decode cX12_stateOf 116 = .ok (.iload_n 1, 1) := by decide +kernel
theorem dX12_stateOf_117 : decode cX12_stateOf 117 = .ok (.iaload, 1) := by decide +kernel
theorem dX12_stateOf_118 : decode cX12_stateOf 118 = .ok (.iconst 1, 1) := by decide +kernel
theorem dX12_stateOf_119 : decode cX12_stateOf 119 = .ok (.if_icmp .ne 8, 3) := by decide +kernel
theorem dX12_stateOf_122 : decode cX12_stateOf 122 = .ok (.bipush 6, 2) := by decide +kernel
theorem dX12_stateOf_124 : decode cX12_stateOf 124 = .ok (.goto 5, 3) := by decide +kernel
theorem dX12_stateOf_127 : decode cX12_stateOf 127 = .ok (.bipush 7, 2) := by decide +kernel
theorem dX12_stateOf_129 : decode cX12_stateOf 129 = .ok (.ireturn, 1) := by decide +kernel
theorem dX12_lets_0 : decode cX12_lets 0 = .ok (.aload_n 0, 1) := by decide +kernel
theorem dX12_lets_1 : decode cX12_lets 1 = .ok (.iload_n 1, 1) := by decide +kernel
theorem dX12_lets_2 : decode cX12_lets 2 = .ok (.iload_n 2, 1) := by decide +kernel
theorem dX12_lets_3 : decode cX12_lets 3 = .ok (.aload_n 0, 1) := by decide +kernel
theorem dX12_lets_4 : decode cX12_lets 4 = .ok (.getfield 273, 3) := by decide +kernel
theorem dX12_lets_7 : decode cX12_lets 7 = .ok (.invokevirtual 402, 3) := by decide +kernel
theorem dX12_lets_10 : decode cX12_lets 10 = .ok (.istore_n 3, 1) := by decide +kernel
theorem dX12_lets_11 : decode cX12_lets 11 = .ok (.aload_n 0, 1) := by decide +kernel
theorem dX12_lets_12 : decode cX12_lets 12 = .ok (.getfield 80, 3) := by decide +kernel
theorem dX12_lets_15 : decode cX12_lets 15 = .ok (.iload_n 1, 1) := by decide +kernel
theorem dX12_lets_16 : decode cX12_lets 16 = .ok (.iaload, 1) := by decide +kernel
theorem dX12_lets_17 : decode cX12_lets 17 = .ok (.tableswitch 84 0 3 #[31, 41, 53, 61], 31) := by decide +kernel
theorem dX12_lets_48 : decode cX12_lets 48 = .ok (.iload_n 3, 1) := by decide +kernel
theorem dX12_lets_49 : decode cX12_lets 49 = .ok (.ifCond .ne 7, 3) := by decide +kernel
theorem dX12_lets_52 : decode cX12_lets 52 = .ok (.iconst 1, 1) := by decide +kernel
theorem dX12_lets_53 : decode cX12_lets 53 = .ok (.goto 4, 3) := by decide +kernel
theorem dX12_lets_56 : decode cX12_lets 56 = .ok (.iconst 0, 1) := by decide +kernel
theorem dX12_lets_57 : decode cX12_lets 57 = .ok (.ireturn, 1) := by decide +kernel
theorem dX12_lets_58 : decode cX12_lets 58 = .ok (.iload_n 3, 1) := by decide +kernel
theorem dX12_lets_59 : decode cX12_lets 59 = .ok (.bipush 6, 2) := by decide +kernel
theorem dX12_lets_61 : decode cX12_lets 61 = .ok (.if_icmp .ne 7, 3) := by decide +kernel
theorem dX12_lets_64 : decode cX12_lets 64 = .ok (.iconst 1, 1) := by decide +kernel
theorem dX12_lets_65 : decode cX12_lets 65 = .ok (.goto 4, 3) := by decide +kernel
theorem dX12_lets_68 : decode cX12_lets 68 = .ok (.iconst 0, 1) := by decide +kernel
theorem dX12_lets_69 : decode cX12_lets 69 = .ok (.ireturn, 1) := by decide +kernel
theorem dX12_lets_70 : decode cX12_lets 70 = .ok (.iload_n 3, 1) := by decide +kernel
theorem dX12_lets_71 : decode cX12_lets 71 = .ok (.iconst 4, 1) := by decide +kernel
theorem dX12_lets_72 : decode cX12_lets 72 = .ok (.bipush 6, 2) := by decide +kernel
theorem dX12_lets_74 : decode cX12_lets 74 = .ok (.invokestatic 262, 3) := by decide +kernel
theorem dX12_lets_77 : decode cX12_lets 77 = .ok (.ireturn, 1) := by decide +kernel
theorem dX12_lets_78 : decode cX12_lets 78 = .ok (.iload_n 3, 1) := by decide +kernel
theorem dX12_lets_79 : decode cX12_lets 79 = .ok (.iconst 4, 1) := by decide +kernel
theorem dX12_lets_80 : decode cX12_lets 80 = .ok (.if_icmp .eq 15, 3) := by decide +kernel
theorem dX12_lets_83 : decode cX12_lets 83 = .ok (.iload_n 3, 1) := by decide +kernel
theorem dX12_lets_84 : decode cX12_lets 84 = .ok (.bipush 6, 2) := by decide +kernel
theorem dX12_lets_86 : decode cX12_lets 86 = .ok (.if_icmp .eq 9, 3) := by decide +kernel
theorem dX12_lets_89 : decode cX12_lets 89 = .ok (.iload_n 3, 1) := by decide +kernel
theorem dX12_lets_90 : decode cX12_lets 90 = .ok (.bipush 8, 2) := by decide +kernel
theorem dX12_lets_92 : decode cX12_lets 92 = .ok (.if_icmp .ne 7, 3) := by decide +kernel
theorem dX12_lets_95 : decode cX12_lets 95 = .ok (.iconst 1, 1) := by decide +kernel
theorem dX12_lets_96 : decode cX12_lets 96 = .ok (.goto 4, 3) := by decide +kernel
theorem dX12_lets_99 : decode cX12_lets 99 = .ok (.iconst 0, 1) := by decide +kernel
theorem dX12_lets_100 : decode cX12_lets 100 = .ok (.ireturn, 1) := by decide +kernel
theorem dX12_lets_101 : decode cX12_lets 101 = .ok (.iload_n 3, 1) := by decide +kernel
theorem dX12_lets_102 : decode cX12_lets 102 = .ok (.iconst 2, 1) := by decide +kernel
theorem dX12_lets_103 : decode cX12_lets 103 = .ok (.if_icmp .eq 25, 3) := by decide +kernel
theorem dX12_lets_106 : decode cX12_lets 106 = .ok (.iload_n 3, 1) := by decide +kernel
theorem dX12_lets_107 : decode cX12_lets 107 = .ok (.iconst 3, 1) := by decide +kernel
theorem dX12_lets_108 : decode cX12_lets 108 = .ok (.if_icmp .eq 20, 3) := by decide +kernel
theorem dX12_lets_111 : decode cX12_lets 111 = .ok (.iload_n 3, 1) := by decide +kernel
theorem dX12_lets_112 : decode cX12_lets 112 = .ok (.iconst 4, 1) := by decide +kernel
theorem dX12_lets_113 : decode cX12_lets 113 = .ok (.if_icmp .eq 15, 3) := by decide +kernel
theorem dX12_lets_116 : decode cX12_lets 116 = .ok (.iload_n 3, 1) := by decide +kernel
theorem dX12_lets_117 : decode cX12_lets 117 = .ok (.bipush 6, 2) := by decide +kernel
theorem dX12_lets_119 : decode cX12_lets 119 = .ok (.if_icmp .eq 9, 3) := by decide +kernel
theorem dX12_lets_122 : decode cX12_lets 122 = .ok (.iload_n 3, 1) := by decide +kernel
theorem dX12_lets_123 : decode cX12_lets 123 = .ok (.bipush 8, 2) := by decide +kernel
theorem dX12_lets_125 : decode cX12_lets 125 = .ok (.if_icmp .ne 7, 3) := by decide +kernel
theorem dX12_lets_128 : decode cX12_lets 128 = .ok (.iconst 1, 1) := by decide +kernel
theorem dX12_lets_129 : decode cX12_lets 129 = .ok (.goto 4, 3) := by decide +kernel
theorem dX12_lets_132 : decode cX12_lets 132 = .ok (.iconst 0, 1) := by decide +kernel
theorem dX12_lets_133 : decode cX12_lets 133 = .ok (.ireturn, 1) := by decide +kernel
theorem dX12_paper_0 : decode cX12_paper 0 = .ok (.aload_n 0, 1) := by decide +kernel
theorem dX12_paper_1 : decode cX12_paper 1 = .ok (.iload_n 1, 1) := by decide +kernel
theorem dX12_paper_2 : decode cX12_paper 2 = .ok (.invokevirtual 405, 3) := by decide +kernel
theorem dX12_paper_5 : decode cX12_paper 5 = .ok (.ifCond .eq 13, 3) := by decide +kernel
theorem dX12_paper_8 : decode cX12_paper 8 = .ok (.iload_n 2, 1) := by decide +kernel
theorem dX12_paper_9 : decode cX12_paper 9 = .ok (.iconst 0, 1) := by decide +kernel
theorem dX12_paper_10 : decode cX12_paper 10 = .ok (.bipush 7, 2) := by decide +kernel
theorem dX12_paper_12 : decode cX12_paper 12 = .ok (.invokestatic 262, 3) := by decide +kernel
theorem dX12_paper_15 : decode cX12_paper 15 = .ok (.ifCond .ne 9, 3) := by decide +kernel
theorem dX12_paper_18 : decode cX12_paper 18 = .ok (.aload_n 0, 1) := by decide +kernel
theorem dX12_paper_19 : decode cX12_paper 19 = .ok (.iconst (-1), 1) := by decide +kernel
theorem dX12_paper_20 : decode cX12_paper 20 = .ok (.invokevirtual 269, 3) := by decide +kernel
theorem dX12_paper_23 : decode cX12_paper 23 = .ok (.ireturn, 1) := by decide +kernel
theorem dX12_paper_24 : decode cX12_paper 24 = .ok (.aload_n 0, 1) := by decide +kernel
theorem dX12_paper_25 : decode cX12_paper 25 = .ok (.iload_n 1, 1) := by decide +kernel
theorem dX12_paper_26 : decode cX12_paper 26 = .ok (.aload_n 0, 1) := by decide +kernel
theorem dX12_paper_27 : decode cX12_paper 27 = .ok (.getfield 273, 3) := by decide +kernel
theorem dX12_paper_30 : decode cX12_paper 30 = .ok (.invokevirtual 388, 3) := by decide +kernel
theorem dX12_paper_33 : decode cX12_paper 33 = .ok (.ifCond .ne 24, 3) := by decide +kernel
theorem dX12_paper_36 : decode cX12_paper 36 = .ok (.iload_n 3, 1) := by decide +kernel
theorem dX12_paper_37 : decode cX12_paper 37 = .ok (.ifCond .ne 27, 3) := by decide +kernel
theorem dX12_paper_40 : decode cX12_paper 40 = .ok (.aload_n 0, 1) := by decide +kernel
theorem dX12_paper_41 : decode cX12_paper 41 = .ok (.iload_n 1, 1) := by decide +kernel
theorem dX12_paper_42 : decode cX12_paper 42 = .ok (.iload_n 2, 1) := by decide +kernel
theorem dX12_paper_43 : decode cX12_paper 43 = .ok (.aload_n 0, 1) := by decide +kernel
theorem dX12_paper_44 : decode cX12_paper 44 = .ok (.getfield 273, 3) := by decide +kernel
theorem dX12_paper_47 : decode cX12_paper 47 = .ok (.aload_n 0, 1) := by decide +kernel
theorem dX12_paper_48 : decode cX12_paper 48 = .ok (.getfield 273, 3) := by decide +kernel
theorem dX12_paper_51 : decode cX12_paper 51 = .ok (.invokevirtual 384, 3) := by decide +kernel
theorem dX12_paper_54 : decode cX12_paper 54 = .ok (.ifCond .ge 10, 3) := by decide +kernel
theorem dX12_paper_57 : decode cX12_paper 57 = .ok (.aload_n 0, 1) := by decide +kernel
theorem dX12_paper_58 : decode cX12_paper 58 = .ok (.bipush (-3), 2) := by decide +kernel
theorem dX12_paper_60 : decode cX12_paper 60 = .ok (.invokevirtual 269, 3) := by decide +kernel
theorem dX12_paper_63 : decode cX12_paper 63 = .ok (.ireturn, 1) := by decide +kernel
theorem dX12_paper_64 : decode cX12_paper 64 = .ok (.aload_n 0, 1) := by decide +kernel
theorem dX12_paper_65 : decode cX12_paper 65 = .ok (.getfield 98, 3) := by decide +kernel
theorem dX12_paper_68 : decode cX12_paper 68 = .ok (.iload_n 1, 1) := by decide +kernel
theorem dX12_paper_69 : decode cX12_paper 69 = .ok (.iaload, 1) := by decide +kernel
theorem dX12_paper_70 : decode cX12_paper 70 = .ok (.bipush 30, 2) := by decide +kernel
theorem dX12_paper_72 : decode cX12_paper 72 = .ok (.if_icmp .ne 10, 3) := by decide +kernel
theorem dX12_paper_75 : decode cX12_paper 75 = .ok (.aload_n 0, 1) := by decide +kernel
theorem dX12_paper_76 : decode cX12_paper 76 = .ok (.bipush (-6), 2) := by decide +kernel
theorem dX12_paper_78 : decode cX12_paper 78 = .ok (.invokevirtual 269, 3) := by decide +kernel
theorem dX12_paper_81 : decode cX12_paper 81 = .ok (.ireturn, 1) := by decide +kernel
theorem dX12_paper_82 : decode cX12_paper 82 = .ok (.aload_n 0, 1) := by decide +kernel
theorem dX12_paper_83 : decode cX12_paper 83 = .ok (.iload_n 1, 1) := by decide +kernel
theorem dX12_paper_84 : decode cX12_paper 84 = .ok (.iload_n 3, 1) := by decide +kernel
theorem dX12_paper_85 : decode cX12_paper 85 = .ok (.ifCond .eq 7, 3) := by decide +kernel
theorem dX12_paper_88 : decode cX12_paper 88 = .ok (.iconst 0, 1) := by decide +kernel
theorem dX12_paper_89 : decode cX12_paper 89 = .ok (.goto 4, 3) := by decide +kernel
theorem dX12_paper_92 : decode cX12_paper 92 = .ok (.iconst 1, 1) := by decide +kernel
theorem dX12_paper_93 : decode cX12_paper 93 = .ok (.iload_n 2, 1) := by decide +kernel
theorem dX12_paper_94 : decode cX12_paper 94 = .ok (.iconst 0, 1) := by decide +kernel
theorem dX12_paper_95 : decode cX12_paper 95 = .ok (.invokevirtual 408, 3) := by decide +kernel
theorem dX12_paper_98 : decode cX12_paper 98 = .ok (.aload_n 0, 1) := by decide +kernel
theorem dX12_paper_99 : decode cX12_paper 99 = .ok (.getfield 98, 3) := by decide +kernel
theorem dX12_paper_102 : decode cX12_paper 102 = .ok (.iload_n 1, 1) := by decide +kernel
theorem dX12_paper_103 : decode cX12_paper 103 = .ok (.iaload, 1) := by decide +kernel
theorem dX12_paper_104 : decode cX12_paper 104 = .ok (.ireturn, 1) := by decide +kernel
theorem dX12_withdraw_0 : decode cX12_withdraw 0 = .ok (.aload_n 0, 1) := by decide +kernel
theorem dX12_withdraw_1 : decode cX12_withdraw 1 = .ok (.iload_n 1, 1) := by decide +kernel
theorem dX12_withdraw_2 : decode cX12_withdraw 2 = .ok (.invokevirtual 405, 3) := by decide +kernel
theorem dX12_withdraw_5 : decode cX12_withdraw 5 = .ok (.ifCond .ne 9, 3) := by decide +kernel
theorem dX12_withdraw_8 : decode cX12_withdraw 8 = .ok (.aload_n 0, 1) := by decide +kernel
theorem dX12_withdraw_9 : decode cX12_withdraw 9 = .ok (.iconst (-1), 1) := by decide +kernel
theorem dX12_withdraw_10 : decode cX12_withdraw 10 = .ok (.invokevirtual 269, 3) := by decide +kernel
theorem dX12_withdraw_13 : decode cX12_withdraw 13 = .ok (.ireturn, 1) := by decide +kernel
theorem dX12_withdraw_14 : decode cX12_withdraw 14 = .ok (.aload_n 0, 1) := by decide +kernel
theorem dX12_withdraw_15 : decode cX12_withdraw 15 = .ok (.iload_n 1, 1) := by decide +kernel
theorem dX12_withdraw_16 : decode cX12_withdraw 16 = .ok (.aload_n 0, 1) := by decide +kernel
theorem dX12_withdraw_17 : decode cX12_withdraw 17 = .ok (.getfield 273, 3) := by decide +kernel
theorem dX12_withdraw_20 : decode cX12_withdraw 20 = .ok (.invokevirtual 388, 3) := by decide +kernel
theorem dX12_withdraw_23 : decode cX12_withdraw 23 = .ok (.ifCond .eq 10, 3) := by decide +kernel
theorem dX12_withdraw_26 : decode cX12_withdraw 26 = .ok (.aload_n 0, 1) := by decide +kernel
theorem dX12_withdraw_27 : decode cX12_withdraw 27 = .ok (.bipush (-3), 2) := by decide +kernel
theorem dX12_withdraw_29 : decode cX12_withdraw 29 = .ok (.invokevirtual 269, 3) := by decide +kernel
theorem dX12_withdraw_32 : decode cX12_withdraw 32 = .ok (.ireturn, 1) := by decide +kernel
theorem dX12_withdraw_33 : decode cX12_withdraw 33 = .ok (.aload_n 0, 1) := by decide +kernel
theorem dX12_withdraw_34 : decode cX12_withdraw 34 = .ok (.getfield 98, 3) := by decide +kernel
theorem dX12_withdraw_37 : decode cX12_withdraw 37 = .ok (.iload_n 1, 1) := by decide +kernel
theorem dX12_withdraw_38 : decode cX12_withdraw 38 = .ok (.iaload, 1) := by decide +kernel
theorem dX12_withdraw_39 : decode cX12_withdraw 39 = .ok (.bipush 30, 2) := by decide +kernel
theorem dX12_withdraw_41 : decode cX12_withdraw 41 = .ok (.if_icmp .ne 10, 3) := by decide +kernel
theorem dX12_withdraw_44 : decode cX12_withdraw 44 = .ok (.aload_n 0, 1) := by decide +kernel
theorem dX12_withdraw_45 : decode cX12_withdraw 45 = .ok (.bipush (-6), 2) := by decide +kernel
theorem dX12_withdraw_47 : decode cX12_withdraw 47 = .ok (.invokevirtual 269, 3) := by decide +kernel
theorem dX12_withdraw_50 : decode cX12_withdraw 50 = .ok (.ireturn, 1) := by decide +kernel
theorem dX12_withdraw_51 : decode cX12_withdraw 51 = .ok (.aload_n 0, 1) := by decide +kernel
theorem dX12_withdraw_52 : decode cX12_withdraw 52 = .ok (.iload_n 1, 1) := by decide +kernel
theorem dX12_withdraw_53 : decode cX12_withdraw 53 = .ok (.iconst 2, 1) := by decide +kernel
theorem dX12_withdraw_54 : decode cX12_withdraw 54 = .ok (.iconst (-1), 1) := by decide +kernel
theorem dX12_withdraw_55 : decode cX12_withdraw 55 = .ok (.iconst 0, 1) := by decide +kernel
theorem dX12_withdraw_56 : decode cX12_withdraw 56 = .ok (.invokevirtual 408, 3) := by decide +kernel
theorem dX12_withdraw_59 : decode cX12_withdraw 59 = .ok (.iconst 1, 1) := by decide +kernel
theorem dX12_withdraw_60 : decode cX12_withdraw 60 = .ok (.ireturn, 1) := by decide +kernel
theorem dX12_state_0 : decode cX12_state 0 = .ok (.aload_n 0, 1) := by decide +kernel
theorem dX12_state_1 : decode cX12_state 1 = .ok (.iload_n 1, 1) := by decide +kernel
theorem dX12_state_2 : decode cX12_state 2 = .ok (.invokevirtual 405, 3) := by decide +kernel
theorem dX12_state_5 : decode cX12_state 5 = .ok (.ifCond .ne 9, 3) := by decide +kernel
theorem dX12_state_8 : decode cX12_state 8 = .ok (.aload_n 0, 1) := by decide +kernel
theorem dX12_state_9 : decode cX12_state 9 = .ok (.iconst (-1), 1) := by decide +kernel
theorem dX12_state_10 : decode cX12_state 10 = .ok (.invokevirtual 269, 3) := by decide +kernel
theorem dX12_state_13 : decode cX12_state 13 = .ok (.ireturn, 1) := by decide +kernel
theorem dX12_state_14 : decode cX12_state 14 = .ok (.iload_n 2, 1) := by decide +kernel
theorem dX12_state_15 : decode cX12_state 15 = .ok (.ifCond .lt 7, 3) := by decide +kernel
theorem dX12_state_18 : decode cX12_state 18 = .ok (.iload_n 3, 1) := by decide +kernel
theorem dX12_state_19 : decode cX12_state 19 = .ok (.ifCond .ge 10, 3) := by decide +kernel
theorem dX12_state_22 : decode cX12_state 22 = .ok (.aload_n 0, 1) := by decide +kernel
theorem dX12_state_23 : decode cX12_state 23 = .ok (.bipush (-4), 2) := by decide +kernel
theorem dX12_state_25 : decode cX12_state 25 = .ok (.invokevirtual 269, 3) := by decide +kernel
theorem dX12_state_28 : decode cX12_state 28 = .ok (.ireturn, 1) := by decide +kernel
theorem dX12_state_29 : decode cX12_state 29 = .ok (.iload_n 2, 1) := by decide +kernel
theorem dX12_state_30 : decode cX12_state 30 = .ok (.aload_n 0, 1) := by decide +kernel
theorem dX12_state_31 : decode cX12_state 31 = .ok (.getfield 86, 3) := by decide +kernel
theorem dX12_state_34 : decode cX12_state 34 = .ok (.iload_n 1, 1) := by decide +kernel
theorem dX12_state_35 : decode cX12_state 35 = .ok (.iaload, 1) := by decide +kernel
theorem dX12_state_36 : decode cX12_state 36 = .ok (.if_icmp .lt 16, 3) := by decide +kernel
theorem dX12_state_39 : decode cX12_state 39 = .ok (.iload_n 2, 1) := by decide +kernel
theorem dX12_state_40 : decode cX12_state 40 = .ok (.iload_n 3, 1) := by decide +kernel
theorem dX12_state_41 : decode cX12_state 41 = .ok (.if_icmp .gt 11, 3) := by decide +kernel
theorem dX12_state_44 : decode cX12_state 44 = .ok (.iload_n 3, 1) := by decide +kernel
theorem dX12_state_45 : decode cX12_state 45 = .ok (.aload_n 0, 1) := by decide +kernel
theorem dX12_state_46 : decode cX12_state 46 = .ok (.getfield 273, 3) := by decide +kernel
theorem dX12_state_49 : decode cX12_state 49 = .ok (.if_icmp .le 10, 3) := by decide +kernel
theorem dX12_state_52 : decode cX12_state 52 = .ok (.aload_n 0, 1) := by decide +kernel
theorem dX12_state_53 : decode cX12_state 53 = .ok (.bipush (-3), 2) := by decide +kernel
theorem dX12_state_55 : decode cX12_state 55 = .ok (.invokevirtual 269, 3) := by decide +kernel
theorem dX12_state_58 : decode cX12_state 58 = .ok (.ireturn, 1) := by decide +kernel
theorem dX12_state_59 : decode cX12_state 59 = .ok (.aload_n 0, 1) := by decide +kernel
theorem dX12_state_60 : decode cX12_state 60 = .ok (.iload_n 1, 1) := by decide +kernel
theorem dX12_state_61 : decode cX12_state 61 = .ok (.iload_n 2, 1) := by decide +kernel
theorem dX12_state_62 : decode cX12_state 62 = .ok (.iload_n 3, 1) := by decide +kernel
theorem dX12_state_63 : decode cX12_state 63 = .ok (.invokevirtual 402, 3) := by decide +kernel
theorem dX12_state_66 : decode cX12_state 66 = .ok (.ireturn, 1) := by decide +kernel
theorem dX12_matterOf_0 : decode cX12_matterOf 0 = .ok (.aload_n 0, 1) := by decide +kernel
theorem dX12_matterOf_1 : decode cX12_matterOf 1 = .ok (.iload_n 1, 1) := by decide +kernel
theorem dX12_matterOf_2 : decode cX12_matterOf 2 = .ok (.invokevirtual 405, 3) := by decide +kernel
theorem dX12_matterOf_5 : decode cX12_matterOf 5 = .ok (.ifCond .ne 9, 3) := by decide +kernel
theorem dX12_matterOf_8 : decode cX12_matterOf 8 = .ok (.aload_n 0, 1) := by decide +kernel
theorem dX12_matterOf_9 : decode cX12_matterOf 9 = .ok (.iconst (-1), 1) := by decide +kernel
theorem dX12_matterOf_10 : decode cX12_matterOf 10 = .ok (.invokevirtual 269, 3) := by decide +kernel
theorem dX12_matterOf_13 : decode cX12_matterOf 13 = .ok (.ireturn, 1) := by decide +kernel
theorem dX12_matterOf_14 : decode cX12_matterOf 14 = .ok (.iload_n 2, 1) := by decide +kernel
theorem dX12_matterOf_15 : decode cX12_matterOf 15 = .ok (.iconst 0, 1) := by decide +kernel
theorem dX12_matterOf_16 : decode cX12_matterOf 16 = .ok (.iconst 5, 1) := by decide +kernel
theorem dX12_matterOf_17 : decode cX12_matterOf 17 = .ok (.invokestatic 262, 3) := by decide +kernel
theorem dX12_matterOf_20 : decode cX12_matterOf 20 = .ok (.ifCond .ne 10, 3) := by decide +kernel
theorem dX12_matterOf_23 : decode cX12_matterOf 23 = .ok (.aload_n 0, 1) := by decide +kernel
theorem dX12_matterOf_24 : decode cX12_matterOf 24 = .ok (.bipush (-2), 2) := by decide +kernel
theorem dX12_matterOf_26 : decode cX12_matterOf 26 = .ok (.invokevirtual 269, 3) := by decide +kernel
theorem dX12_matterOf_29 : decode cX12_matterOf 29 = .ok (.ireturn, 1) := by decide +kernel
theorem dX12_matterOf_30 : decode cX12_matterOf 30 = .ok (.iload_n 2, 1) := by decide +kernel
theorem dX12_matterOf_31 : decode cX12_matterOf 31 = .ok (.tableswitch 97 0 4 #[33, 40, 47, 72, 90], 33) := by decide +kernel
theorem dX12_matterOf_64 : decode cX12_matterOf 64 = .ok (.aload_n 0, 1) := by decide +kernel
theorem dX12_matterOf_65 : decode cX12_matterOf 65 = .ok (.getfield 80, 3) := by decide +kernel
theorem dX12_matterOf_68 : decode cX12_matterOf 68 = .ok (.iload_n 1, 1) := by decide +kernel
theorem dX12_matterOf_69 : decode cX12_matterOf 69 = .ok (.iaload, 1) := by decide +kernel
theorem dX12_matterOf_70 : decode cX12_matterOf 70 = .ok (.ireturn, 1) := by decide +kernel
theorem dX12_matterOf_71 : decode cX12_matterOf 71 = .ok (.aload_n 0, 1) := by decide +kernel
theorem dX12_matterOf_72 : decode cX12_matterOf 72 = .ok (.getfield 86, 3) := by decide +kernel
theorem dX12_matterOf_75 : decode cX12_matterOf 75 = .ok (.iload_n 1, 1) := by decide +kernel
theorem dX12_matterOf_76 : decode cX12_matterOf 76 = .ok (.iaload, 1) := by decide +kernel
theorem dX12_matterOf_77 : decode cX12_matterOf 77 = .ok (.ireturn, 1) := by decide +kernel
theorem dX12_matterOf_78 : decode cX12_matterOf 78 = .ok (.aload_n 0, 1) := by decide +kernel
theorem dX12_matterOf_79 : decode cX12_matterOf 79 = .ok (.iload_n 1, 1) := by decide +kernel
theorem dX12_matterOf_80 : decode cX12_matterOf 80 = .ok (.aload_n 0, 1) := by decide +kernel
theorem dX12_matterOf_81 : decode cX12_matterOf 81 = .ok (.getfield 273, 3) := by decide +kernel
theorem dX12_matterOf_84 : decode cX12_matterOf 84 = .ok (.aload_n 0, 1) := by decide +kernel
theorem dX12_matterOf_85 : decode cX12_matterOf 85 = .ok (.getfield 273, 3) := by decide +kernel
theorem dX12_matterOf_88 : decode cX12_matterOf 88 = .ok (.invokevirtual 399, 3) := by decide +kernel
theorem dX12_matterOf_91 : decode cX12_matterOf 91 = .ok (.istore_n 3, 1) := by decide +kernel
theorem dX12_matterOf_92 : decode cX12_matterOf 92 = .ok (.iload_n 3, 1) := by decide +kernel
theorem dX12_matterOf_93 : decode cX12_matterOf 93 = .ok (.ifCond .ge 8, 3) := by decide +kernel
theorem dX12_matterOf_96 : decode cX12_matterOf 96 = .ok (.bipush (-9), 2) := by decide +kernel
theorem dX12_matterOf_98 : decode cX12_matterOf 98 = .ok (.goto 4, 3) := by decide +kernel
theorem dX12_matterOf_101 : decode cX12_matterOf 101 = .ok (.iload_n 3, 1) := by decide +kernel
theorem dX12_matterOf_102 : decode cX12_matterOf 102 = .ok (.ireturn, 1) := by decide +kernel
theorem dX12_matterOf_103 : decode cX12_matterOf 103 = .ok (.aload_n 0, 1) := by decide +kernel
theorem dX12_matterOf_104 : decode cX12_matterOf 104 = .ok (.iload_n 1, 1) := by decide +kernel
theorem dX12_matterOf_105 : decode cX12_matterOf 105 = .ok (.aload_n 0, 1) := by decide +kernel
theorem dX12_matterOf_106 : decode cX12_matterOf 106 = .ok (.getfield 273, 3) := by decide +kernel
theorem dX12_matterOf_109 : decode cX12_matterOf 109 = .ok (.invokevirtual 412, 3) := by decide +kernel
theorem dX12_matterOf_112 : decode cX12_matterOf 112 = .ok (.ifCond .eq 7, 3) := by decide +kernel
theorem dX12_matterOf_115 : decode cX12_matterOf 115 = .ok (.iconst 1, 1) := by decide +kernel
theorem dX12_matterOf_116 : decode cX12_matterOf 116 = .ok (.goto 4, 3) := by decide +kernel
theorem dX12_matterOf_119 : decode cX12_matterOf 119 = .ok (.iconst 0, 1) := by decide +kernel
theorem dX12_matterOf_120 : decode cX12_matterOf 120 = .ok (.ireturn, 1) := by decide +kernel
theorem dX12_matterOf_121 : decode cX12_matterOf 121 = .ok (.aload_n 0, 1) := by decide +kernel
theorem dX12_matterOf_122 : decode cX12_matterOf 122 = .ok (.getfield 98, 3) := by decide +kernel
theorem dX12_matterOf_125 : decode cX12_matterOf 125 = .ok (.iload_n 1, 1) := by decide +kernel
theorem dX12_matterOf_126 : decode cX12_matterOf 126 = .ok (.iaload, 1) := by decide +kernel
theorem dX12_matterOf_127 : decode cX12_matterOf 127 = .ok (.ireturn, 1) := by decide +kernel
theorem dX12_matterOf_128 : decode cX12_matterOf 128 = .ok (.aload_n 0, 1) := by decide +kernel
theorem dX12_matterOf_129 : decode cX12_matterOf 129 = .ok (.getfield 83, 3) := by decide +kernel
theorem dX12_matterOf_132 : decode cX12_matterOf 132 = .ok (.iload_n 1, 1) := by decide +kernel
theorem dX12_matterOf_133 : decode cX12_matterOf 133 = .ok (.iaload, 1) := by decide +kernel
theorem dX12_matterOf_134 : decode cX12_matterOf 134 = .ok (.ireturn, 1) := by decide +kernel
theorem dX12_votes_0 : decode cX12_votes 0 = .ok (.iload_n 1, 1) := by decide +kernel
theorem dX12_votes_1 : decode cX12_votes 1 = .ok (.invokestatic 280, 3) := by decide +kernel
theorem dX12_votes_4 : decode cX12_votes 4 = .ok (.ifCond .ne 9, 3) := by decide +kernel
theorem dX12_votes_7 : decode cX12_votes 7 = .ok (.aload_n 0, 1) := by decide +kernel
theorem dX12_votes_8 : decode cX12_votes 8 = .ok (.iconst (-1), 1) := by decide +kernel
theorem dX12_votes_9 : decode cX12_votes 9 = .ok (.invokevirtual 269, 3) := by decide +kernel
theorem dX12_votes_12 : decode cX12_votes 12 = .ok (.ireturn, 1) := by decide +kernel
theorem dX12_votes_13 : decode cX12_votes 13 = .ok (.iload_n 2, 1) := by decide +kernel
theorem dX12_votes_14 : decode cX12_votes 14 = .ok (.ifCond .ge 10, 3) := by decide +kernel
theorem dX12_votes_17 : decode cX12_votes 17 = .ok (.aload_n 0, 1) := by decide +kernel
theorem dX12_votes_18 : decode cX12_votes 18 = .ok (.bipush (-4), 2) := by decide +kernel
theorem dX12_votes_20 : decode cX12_votes 20 = .ok (.invokevirtual 269, 3) := by decide +kernel
theorem dX12_votes_23 : decode cX12_votes 23 = .ok (.ireturn, 1) := by decide +kernel
theorem dX12_votes_24 : decode cX12_votes 24 = .ok (.iload_n 2, 1) := by decide +kernel
theorem dX12_votes_25 : decode cX12_votes 25 = .ok (.sipush 999, 3) := by decide +kernel
theorem dX12_votes_28 : decode cX12_votes 28 = .ok (.if_icmp .le 10, 3) := by decide +kernel
theorem dX12_votes_31 : decode cX12_votes 31 = .ok (.aload_n 0, 1) := by decide +kernel
theorem dX12_votes_32 : decode cX12_votes 32 = .ok (.bipush (-6), 2) := by decide +kernel
theorem dX12_votes_34 : decode cX12_votes 34 = .ok (.invokevirtual 269, 3) := by decide +kernel
theorem dX12_votes_37 : decode cX12_votes 37 = .ok (.ireturn, 1) := by decide +kernel
theorem dX12_votes_38 : decode cX12_votes 38 = .ok (.aload_n 0, 1) := by decide +kernel
theorem dX12_votes_39 : decode cX12_votes 39 = .ok (.getfield 113, 3) := by decide +kernel
theorem dX12_votes_42 : decode cX12_votes 42 = .ok (.iload_n 1, 1) := by decide +kernel
theorem dX12_votes_43 : decode cX12_votes 43 = .ok (.iaload, 1) := by decide +kernel
theorem dX12_votes_44 : decode cX12_votes 44 = .ok (.istore_n 3, 1) := by decide +kernel
theorem dX12_votes_45 : decode cX12_votes 45 = .ok (.aload_n 0, 1) := by decide +kernel
theorem dX12_votes_46 : decode cX12_votes 46 = .ok (.getfield 113, 3) := by decide +kernel
theorem dX12_votes_49 : decode cX12_votes 49 = .ok (.iload_n 1, 1) := by decide +kernel
theorem dX12_votes_50 : decode cX12_votes 50 = .ok (.iload_n 2, 1) := by decide +kernel
theorem dX12_votes_51 : decode cX12_votes 51 = .ok (.iastore, 1) := by decide +kernel
theorem dX12_votes_52 : decode cX12_votes 52 = .ok (.iload_n 3, 1) := by decide +kernel
theorem dX12_votes_53 : decode cX12_votes 53 = .ok (.ireturn, 1) := by decide +kernel
theorem dX12_elect_0 : decode cX12_elect 0 = .ok (.iload_n 1, 1) := by decide +kernel
theorem dX12_elect_1 : decode cX12_elect 1 = .ok (.iconst 1, 1) := by decide +kernel
theorem dX12_elect_2 : decode cX12_elect 2 = .ok (.if_icmp .ge 10, 3) := by decide +kernel
theorem dX12_elect_5 : decode cX12_elect 5 = .ok (.aload_n 0, 1) := by decide +kernel
theorem dX12_elect_6 : decode cX12_elect 6 = .ok (.bipush (-4), 2) := by decide +kernel
theorem dX12_elect_8 : decode cX12_elect 8 = .ok (.invokevirtual 269, 3) := by decide +kernel
theorem dX12_elect_11 : decode cX12_elect 11 = .ok (.ireturn, 1) := by decide +kernel
theorem dX12_elect_12 : decode cX12_elect 12 = .ok (.iload_n 1, 1) := by decide +kernel
theorem dX12_elect_13 : decode cX12_elect 13 = .ok (.bipush 9, 2) := by decide +kernel
theorem dX12_elect_15 : decode cX12_elect 15 = .ok (.if_icmp .le 10, 3) := by decide +kernel
theorem dX12_elect_18 : decode cX12_elect 18 = .ok (.aload_n 0, 1) := by decide +kernel
theorem dX12_elect_19 : decode cX12_elect 19 = .ok (.bipush (-6), 2) := by decide +kernel
theorem dX12_elect_21 : decode cX12_elect 21 = .ok (.invokevirtual 269, 3) := by decide +kernel
theorem dX12_elect_24 : decode cX12_elect 24 = .ok (.ireturn, 1) := by decide +kernel
theorem dX12_elect_25 : decode cX12_elect 25 = .ok (.aload_n 0, 1) := by decide +kernel
theorem dX12_elect_26 : decode cX12_elect 26 = .ok (.iconst 0, 1) := by decide +kernel
theorem dX12_elect_27 : decode cX12_elect 27 = .ok (.putfield 357, 3) := by decide +kernel
theorem dX12_elect_30 : decode cX12_elect 30 = .ok (.iconst 0, 1) := by decide +kernel
theorem dX12_elect_31 : decode cX12_elect 31 = .ok (.istore_n 2, 1) := by decide +kernel
theorem dX12_elect_32 : decode cX12_elect 32 = .ok (.iconst 0, 1) := by decide +kernel
theorem dX12_elect_33 : decode cX12_elect 33 = .ok (.istore_n 3, 1) := by decide +kernel
theorem dX12_elect_34 : decode cX12_elect 34 = .ok (.iload_n 3, 1) := by decide +kernel
theorem dX12_elect_35 : decode cX12_elect 35 = .ok (.bipush 6, 2) := by decide +kernel
theorem dX12_elect_37 : decode cX12_elect 37 = .ok (.if_icmp .ge 28, 3) := by decide +kernel
theorem dX12_elect_40 : decode cX12_elect 40 = .ok (.iload_n 2, 1) := by decide +kernel
theorem dX12_elect_41 : decode cX12_elect 41 = .ok (.ifCond .ne 12, 3) := by decide +kernel
theorem dX12_elect_44 : decode cX12_elect 44 = .ok (.aload_n 0, 1) := by decide +kernel
theorem dX12_elect_45 : decode cX12_elect 45 = .ok (.getfield 113, 3) := by decide +kernel
theorem dX12_elect_48 : decode cX12_elect 48 = .ok (.iload_n 3, 1) := by decide +kernel
theorem dX12_elect_49 : decode cX12_elect 49 = .ok (.iaload, 1) := by decide +kernel
theorem dX12_elect_50 : decode cX12_elect 50 = .ok (.ifCond .le 7, 3) := by decide +kernel
theorem dX12_elect_53 : decode cX12_elect 53 = .ok (.iconst 1, 1) := by decide +kernel
theorem dX12_elect_54 : decode cX12_elect 54 = .ok (.goto 4, 3) := by decide +kernel
theorem dX12_elect_57 : decode cX12_elect 57 = .ok (.iconst 0, 1) := by decide +kernel
theorem dX12_elect_58 : decode cX12_elect 58 = .ok (.istore_n 2, 1) := by decide +kernel
theorem dX12_elect_59 : decode cX12_elect 59 = .ok (.iinc 3 1, 3) := by decide +kernel
theorem dX12_elect_62 : decode cX12_elect 62 = .ok (.goto (-28), 3) := by decide +kernel
theorem dX12_elect_65 : decode cX12_elect 65 = .ok (.iload_n 2, 1) := by decide +kernel
theorem dX12_elect_66 : decode cX12_elect 66 = .ok (.ifCond .eq 178, 3) := by decide +kernel
theorem dX12_elect_69 : decode cX12_elect 69 = .ok (.aload_n 0, 1) := by decide +kernel
theorem dX12_elect_70 : decode cX12_elect 70 = .ok (.getfield 357, 3) := by decide +kernel
theorem dX12_elect_73 : decode cX12_elect 73 = .ok (.iload_n 1, 1) := by decide +kernel
theorem dX12_elect_74 : decode cX12_elect 74 = .ok (.if_icmp .ge 170, 3) := by decide +kernel
theorem dX12_elect_77 : decode cX12_elect 77 = .ok (.iconst (-1), 1) := by decide +kernel
theorem dX12_elect_78 : decode cX12_elect 78 = .ok (.istore_n 3, 1) := by decide +kernel
theorem dX12_elect_79 : decode cX12_elect 79 = .ok (.iconst 0, 1) := by decide +kernel
theorem dX12_elect_80 : decode cX12_elect 80 = .ok (.istore 4, 2) := by decide +kernel
theorem dX12_elect_82 : decode cX12_elect 82 = .ok (.iconst 0, 1) := by decide +kernel
theorem dX12_elect_83 : decode cX12_elect 83 = .ok (.istore 5, 2) := by decide +kernel
theorem dX12_elect_85 : decode cX12_elect 85 = .ok (.iload 5, 2) := by decide +kernel
theorem dX12_elect_87 : decode cX12_elect 87 = .ok (.bipush 6, 2) := by decide +kernel
theorem dX12_elect_89 : decode cX12_elect 89 = .ok (.if_icmp .ge 121, 3) := by decide +kernel
theorem dX12_elect_92 : decode cX12_elect 92 = .ok (.iconst 1, 1) := by decide +kernel
theorem dX12_elect_93 : decode cX12_elect 93 = .ok (.istore 6, 2) := by decide +kernel
theorem dX12_elect_95 : decode cX12_elect 95 = .ok (.iconst 0, 1) := by decide +kernel
theorem dX12_elect_96 : decode cX12_elect 96 = .ok (.istore 7, 2) := by decide +kernel
theorem dX12_elect_98 : decode cX12_elect 98 = .ok (.iload 7, 2) := by decide +kernel
theorem dX12_elect_100 : decode cX12_elect 100 = .ok (.aload_n 0, 1) := by decide +kernel
theorem dX12_elect_101 : decode cX12_elect 101 = .ok (.getfield 357, 3) := by decide +kernel
theorem dX12_elect_104 : decode cX12_elect 104 = .ok (.if_icmp .ge 31, 3) := by decide +kernel
theorem dX12_elect_107 : decode cX12_elect 107 = .ok (.iload 6, 2) := by decide +kernel
theorem dX12_elect_109 : decode cX12_elect 109 = .ok (.aload_n 0, 1) := by decide +kernel
theorem dX12_elect_110 : decode cX12_elect 110 = .ok (.getfield 116, 3) := by decide +kernel
theorem dX12_elect_113 : decode cX12_elect 113 = .ok (.iload 7, 2) := by decide +kernel
theorem dX12_elect_115 : decode cX12_elect 115 = .ok (.iaload, 1) := by decide +kernel
theorem dX12_elect_116 : decode cX12_elect 116 = .ok (.iload 5, 2) := by decide +kernel
theorem dX12_elect_118 : decode cX12_elect 118 = .ok (.if_icmp .ne 7, 3) := by decide +kernel
theorem dX12_elect_121 : decode cX12_elect 121 = .ok (.iconst 1, 1) := by decide +kernel
theorem dX12_elect_122 : decode cX12_elect 122 = .ok (.goto 4, 3) := by decide +kernel
theorem dX12_elect_125 : decode cX12_elect 125 = .ok (.iconst 0, 1) := by decide +kernel
theorem dX12_elect_126 : decode cX12_elect 126 = .ok (.iadd, 1) := by decide +kernel
theorem dX12_elect_127 : decode cX12_elect 127 = .ok (.istore 6, 2) := by decide +kernel
theorem dX12_elect_129 : decode cX12_elect 129 = .ok (.iinc 7 1, 3) := by decide +kernel
theorem dX12_elect_132 : decode cX12_elect 132 = .ok (.goto (-34), 3) := by decide +kernel
theorem dX12_elect_135 : decode cX12_elect 135 = .ok (.aload_n 0, 1) := by decide +kernel
theorem dX12_elect_136 : decode cX12_elect 136 = .ok (.getfield 113, 3) := by decide +kernel
theorem dX12_elect_139 : decode cX12_elect 139 = .ok (.iload 5, 2) := by decide +kernel
theorem dX12_elect_141 : decode cX12_elect 141 = .ok (.iaload, 1) := by decide +kernel
theorem dX12_elect_142 : decode cX12_elect 142 = .ok (.ifCond .le 33, 3) := by decide +kernel
theorem dX12_elect_145 : decode cX12_elect 145 = .ok (.iload_n 3, 1) := by decide +kernel
theorem dX12_elect_146 : decode cX12_elect 146 = .ok (.ifCond .lt 25, 3) := by decide +kernel
theorem dX12_elect_149 : decode cX12_elect 149 = .ok (.aload_n 0, 1) := by decide +kernel
theorem dX12_elect_150 : decode cX12_elect 150 = .ok (.getfield 113, 3) := by decide +kernel
theorem dX12_elect_153 : decode cX12_elect 153 = .ok (.iload 5, 2) := by decide +kernel
theorem dX12_elect_155 : decode cX12_elect 155 = .ok (.iaload, 1) := by decide +kernel
theorem dX12_elect_156 : decode cX12_elect 156 = .ok (.iload 4, 2) := by decide +kernel
theorem dX12_elect_158 : decode cX12_elect 158 = .ok (.imul, 1) := by decide +kernel
theorem dX12_elect_159 : decode cX12_elect 159 = .ok (.aload_n 0, 1) := by decide +kernel
theorem dX12_elect_160 : decode cX12_elect 160 = .ok (.getfield 113, 3) := by decide +kernel
theorem dX12_elect_163 : decode cX12_elect 163 = .ok (.iload_n 3, 1) := by decide +kernel
theorem dX12_elect_164 : decode cX12_elect 164 = .ok (.iaload, 1) := by decide +kernel
theorem dX12_elect_165 : decode cX12_elect 165 = .ok (.iload 6, 2) := by decide +kernel
theorem dX12_elect_167 : decode cX12_elect 167 = .ok (.imul, 1) := by decide +kernel
theorem dX12_elect_168 : decode cX12_elect 168 = .ok (.if_icmp .le 7, 3) := by decide +kernel
theorem dX12_elect_171 : decode cX12_elect 171 = .ok (.iconst 1, 1) := by decide +kernel
theorem dX12_elect_172 : decode cX12_elect 172 = .ok (.goto 4, 3) := by decide +kernel
theorem dX12_elect_175 : decode cX12_elect 175 = .ok (.iconst 0, 1) := by decide +kernel
theorem dX12_elect_176 : decode cX12_elect 176 = .ok (.istore 7, 2) := by decide +kernel
theorem dX12_elect_178 : decode cX12_elect 178 = .ok (.iload 7, 2) := by decide +kernel
theorem dX12_elect_180 : decode cX12_elect 180 = .ok (.ifCond .eq 8, 3) := by decide +kernel
theorem dX12_elect_183 : decode cX12_elect 183 = .ok (.iload 6, 2) := by decide +kernel
theorem dX12_elect_185 : decode cX12_elect 185 = .ok (.goto 5, 3) := by decide +kernel
theorem dX12_elect_188 : decode cX12_elect 188 = .ok (.iload 4, 2) := by decide +kernel
theorem dX12_elect_190 : decode cX12_elect 190 = .ok (.istore 4, 2) := by decide +kernel
theorem dX12_elect_192 : decode cX12_elect 192 = .ok (.iload 7, 2) := by decide +kernel
theorem dX12_elect_194 : decode cX12_elect 194 = .ok (.ifCond .eq 8, 3) := by decide +kernel
theorem dX12_elect_197 : decode cX12_elect 197 = .ok (.iload 5, 2) := by decide +kernel
theorem dX12_elect_199 : decode cX12_elect 199 = .ok (.goto 4, 3) := by decide +kernel
theorem dX12_elect_202 : decode cX12_elect 202 = .ok (.iload_n 3, 1) := by decide +kernel
theorem dX12_elect_203 : decode cX12_elect 203 = .ok (.istore_n 3, 1) := by decide +kernel
theorem dX12_elect_204 : decode cX12_elect 204 = .ok (.iinc 5 1, 3) := by decide +kernel
theorem dX12_elect_207 : decode cX12_elect 207 = .ok (.goto (-122), 3) := by decide +kernel
theorem dX12_elect_210 : decode cX12_elect 210 = .ok (.aload_n 0, 1) := by decide +kernel
theorem dX12_elect_211 : decode cX12_elect 211 = .ok (.getfield 116, 3) := by decide +kernel
theorem dX12_elect_214 : decode cX12_elect 214 = .ok (.aload_n 0, 1) := by decide +kernel
theorem dX12_elect_215 : decode cX12_elect 215 = .ok (.getfield 357, 3) := by decide +kernel
theorem dX12_elect_218 : decode cX12_elect 218 = .ok (.iload_n 3, 1) := by decide +kernel
theorem dX12_elect_219 : decode cX12_elect 219 = .ok (.iastore, 1) := by decide +kernel
theorem dX12_elect_220 : decode cX12_elect 220 = .ok (.aload_n 0, 1) := by decide +kernel
theorem dX12_elect_221 : decode cX12_elect 221 = .ok (.getfield 119, 3) := by decide +kernel
theorem dX12_elect_224 : decode cX12_elect 224 = .ok (.aload_n 0, 1) := by decide +kernel
theorem dX12_elect_225 : decode cX12_elect 225 = .ok (.getfield 357, 3) := by decide +kernel
theorem dX12_elect_228 : decode cX12_elect 228 = .ok (.bipush (-9), 2) := by decide +kernel
theorem dX12_elect_230 : decode cX12_elect 230 = .ok (.iastore, 1) := by decide +kernel
theorem dX12_elect_231 : decode cX12_elect 231 = .ok (.aload_n 0, 1) := by decide +kernel
theorem dX12_elect_232 : decode cX12_elect 232 = .ok (.dup, 1) := by decide +kernel
theorem dX12_elect_233 : decode cX12_elect 233 = .ok (.getfield 357, 3) := by decide +kernel
theorem dX12_elect_236 : decode cX12_elect 236 = .ok (.iconst 1, 1) := by decide +kernel
theorem dX12_elect_237 : decode cX12_elect 237 = .ok (.iadd, 1) := by decide +kernel
theorem dX12_elect_238 : decode cX12_elect 238 = .ok (.putfield 357, 3) := by decide +kernel
theorem dX12_elect_241 : decode cX12_elect 241 = .ok (.goto (-176), 3) := by decide +kernel
theorem dX12_elect_244 : decode cX12_elect 244 = .ok (.aload_n 0, 1) := by decide +kernel
theorem dX12_elect_245 : decode cX12_elect 245 = .ok (.getfield 357, 3) := by decide +kernel
theorem dX12_elect_248 : decode cX12_elect 248 = .ok (.ireturn, 1) := by decide +kernel
theorem dX12_isSeat_0 : decode cX12_isSeat 0 = .ok (.iload_n 1, 1) := by decide +kernel
theorem dX12_isSeat_1 : decode cX12_isSeat 1 = .ok (.iconst 0, 1) := by decide +kernel
theorem dX12_isSeat_2 : decode cX12_isSeat 2 = .ok (.aload_n 0, 1) := by decide +kernel
theorem dX12_isSeat_3 : decode cX12_isSeat 3 = .ok (.getfield 357, 3) := by decide +kernel
theorem dX12_isSeat_6 : decode cX12_isSeat 6 = .ok (.iconst 1, 1) := by decide +kernel
theorem dX12_isSeat_7 : decode cX12_isSeat 7 = .ok (.isub, 1) := by decide +kernel
theorem dX12_isSeat_8 : decode cX12_isSeat 8 = .ok (.invokestatic 262, 3) := by decide +kernel
theorem dX12_isSeat_11 : decode cX12_isSeat 11 = .ok (.ireturn, 1) := by decide +kernel
theorem dX12_seat_0 : decode cX12_seat 0 = .ok (.aload_n 0, 1) := by decide +kernel
theorem dX12_seat_1 : decode cX12_seat 1 = .ok (.iload_n 1, 1) := by decide +kernel
theorem dX12_seat_2 : decode cX12_seat 2 = .ok (.invokevirtual 415, 3) := by decide +kernel
theorem dX12_seat_5 : decode cX12_seat 5 = .ok (.ifCond .ne 9, 3) := by decide +kernel
theorem dX12_seat_8 : decode cX12_seat 8 = .ok (.aload_n 0, 1) := by decide +kernel
theorem dX12_seat_9 : decode cX12_seat 9 = .ok (.iconst (-1), 1) := by decide +kernel
theorem dX12_seat_10 : decode cX12_seat 10 = .ok (.invokevirtual 269, 3) := by decide +kernel
theorem dX12_seat_13 : decode cX12_seat 13 = .ok (.ireturn, 1) := by decide +kernel
theorem dX12_seat_14 : decode cX12_seat 14 = .ok (.iload_n 2, 1) := by decide +kernel
theorem dX12_seat_15 : decode cX12_seat 15 = .ok (.iconst 0, 1) := by decide +kernel
theorem dX12_seat_16 : decode cX12_seat 16 = .ok (.iconst 1, 1) := by decide +kernel
theorem dX12_seat_17 : decode cX12_seat 17 = .ok (.invokestatic 262, 3) := by decide +kernel
theorem dX12_seat_20 : decode cX12_seat 20 = .ok (.ifCond .ne 10, 3) := by decide +kernel
theorem dX12_seat_23 : decode cX12_seat 23 = .ok (.aload_n 0, 1) := by decide +kernel
theorem dX12_seat_24 : decode cX12_seat 24 = .ok (.bipush (-2), 2) := by decide +kernel
theorem dX12_seat_26 : decode cX12_seat 26 = .ok (.invokevirtual 269, 3) := by decide +kernel
theorem dX12_seat_29 : decode cX12_seat 29 = .ok (.ireturn, 1) := by decide +kernel
theorem dX12_seat_30 : decode cX12_seat 30 = .ok (.iload_n 2, 1) := by decide +kernel
theorem dX12_seat_31 : decode cX12_seat 31 = .ok (.ifCond .ne 12, 3) := by decide +kernel
theorem dX12_seat_34 : decode cX12_seat 34 = .ok (.aload_n 0, 1) := by decide +kernel
theorem dX12_seat_35 : decode cX12_seat 35 = .ok (.getfield 116, 3) := by decide +kernel
theorem dX12_seat_38 : decode cX12_seat 38 = .ok (.iload_n 1, 1) := by decide +kernel
theorem dX12_seat_39 : decode cX12_seat 39 = .ok (.iaload, 1) := by decide +kernel
theorem dX12_seat_40 : decode cX12_seat 40 = .ok (.goto 9, 3) := by decide +kernel
theorem dX12_seat_43 : decode cX12_seat 43 = .ok (.aload_n 0, 1) := by decide +kernel
theorem dX12_seat_44 : decode cX12_seat 44 = .ok (.getfield 119, 3) := by decide +kernel
theorem dX12_seat_47 : decode cX12_seat 47 = .ok (.iload_n 1, 1) := by decide +kernel
theorem dX12_seat_48 : decode cX12_seat 48 = .ok (.iaload, 1) := by decide +kernel
theorem dX12_seat_49 : decode cX12_seat 49 = .ok (.ireturn, 1) := by decide +kernel
theorem dX12_sit_0 : decode cX12_sit 0 = .ok (.aload_n 0, 1) := by decide +kernel
theorem dX12_sit_1 : decode cX12_sit 1 = .ok (.iload_n 1, 1) := by decide +kernel
theorem dX12_sit_2 : decode cX12_sit 2 = .ok (.invokevirtual 415, 3) := by decide +kernel
theorem dX12_sit_5 : decode cX12_sit 5 = .ok (.ifCond .eq 11, 3) := by decide +kernel
theorem dX12_sit_8 : decode cX12_sit 8 = .ok (.aload_n 0, 1) := by decide +kernel
theorem dX12_sit_9 : decode cX12_sit 9 = .ok (.iload_n 2, 1) := by decide +kernel
theorem dX12_sit_10 : decode cX12_sit 10 = .ok (.invokevirtual 284, 3) := by decide +kernel
theorem dX12_sit_13 : decode cX12_sit 13 = .ok (.ifCond .ne 9, 3) := by decide +kernel
theorem dX12_sit_16 : decode cX12_sit 16 = .ok (.aload_n 0, 1) := by decide +kernel
theorem dX12_sit_17 : decode cX12_sit 17 = .ok (.iconst (-1), 1) := by decide +kernel
theorem dX12_sit_18 : decode cX12_sit 18 = .ok (.invokevirtual 269, 3) := by decide +kernel
theorem dX12_sit_21 : decode cX12_sit 21 = .ok (.ireturn, 1) := by decide +kernel
theorem dX12_sit_22 : decode cX12_sit 22 = .ok (.iconst 0, 1) := by decide +kernel
theorem dX12_sit_23 : decode cX12_sit 23 = .ok (.istore_n 3, 1) := by decide +kernel
theorem dX12_sit_24 : decode cX12_sit 24 = .ok (.iconst 0, 1) := by decide +kernel
theorem dX12_sit_25 : decode cX12_sit 25 = .ok (.istore 4, 2) := by decide +kernel
theorem dX12_sit_27 : decode cX12_sit 27 = .ok (.iload 4, 2) := by decide +kernel
theorem dX12_sit_29 : decode cX12_sit 29 = .ok (.aload_n 0, 1) := by decide +kernel
theorem dX12_sit_30 : decode cX12_sit 30 = .ok (.getfield 357, 3) := by decide +kernel
theorem dX12_sit_33 : decode cX12_sit 33 = .ok (.if_icmp .ge 36, 3) := by decide +kernel
theorem dX12_sit_36 : decode cX12_sit 36 = .ok (.iload_n 3, 1) := by decide +kernel
theorem dX12_sit_37 : decode cX12_sit 37 = .ok (.ifCond .ne 20, 3) := by decide +kernel
theorem dX12_sit_40 : decode cX12_sit 40 = .ok (.iload 4, 2) := by decide +kernel
theorem dX12_sit_42 : decode cX12_sit 42 = .ok (.iload_n 1, 1) := by decide +kernel
theorem dX12_sit_43 : decode cX12_sit 43 = .ok (.if_icmp .eq 18, 3) := by decide +kernel
theorem dX12_sit_46 : decode cX12_sit 46 = .ok (.aload_n 0, 1) := by decide +kernel
theorem dX12_sit_47 : decode cX12_sit 47 = .ok (.getfield 119, 3) := by decide +kernel
theorem dX12_sit_50 : decode cX12_sit 50 = .ok (.iload 4, 2) := by decide +kernel
theorem dX12_sit_52 : decode cX12_sit 52 = .ok (.iaload, 1) := by decide +kernel
theorem dX12_sit_53 : decode cX12_sit 53 = .ok (.iload_n 2, 1) := by decide +kernel
theorem dX12_sit_54 : decode cX12_sit 54 = .ok (.if_icmp .ne 7, 3) := by decide +kernel
theorem dX12_sit_57 : decode cX12_sit 57 = .ok (.iconst 1, 1) := by decide +kernel
theorem dX12_sit_58 : decode cX12_sit 58 = .ok (.goto 4, 3) := by decide +kernel
theorem dX12_sit_61 : decode cX12_sit 61 = .ok (.iconst 0, 1) := by decide +kernel
theorem dX12_sit_62 : decode cX12_sit 62 = .ok (.istore_n 3, 1) := by decide +kernel
theorem dX12_sit_63 : decode cX12_sit 63 = .ok (.iinc 4 1, 3) := by decide +kernel
theorem dX12_sit_66 : decode cX12_sit 66 = .ok (.goto (-39), 3) := by decide +kernel
theorem dX12_sit_69 : decode cX12_sit 69 = .ok (.aload_n 0, 1) := by decide +kernel
theorem dX12_sit_70 : decode cX12_sit 70 = .ok (.getfield 29, 3) := by decide +kernel
theorem dX12_sit_73 : decode cX12_sit 73 = .ok (.iload_n 2, 1) := by decide +kernel
theorem dX12_sit_74 : decode cX12_sit 74 = .ok (.baload, 1) := by decide +kernel
theorem dX12_sit_75 : decode cX12_sit 75 = .ok (.ifCond .ne 22, 3) := by decide +kernel
theorem dX12_sit_78 : decode cX12_sit 78 = .ok (.aload_n 0, 1) := by decide +kernel
theorem dX12_sit_79 : decode cX12_sit 79 = .ok (.getfield 13, 3) := by decide +kernel
theorem dX12_sit_82 : decode cX12_sit 82 = .ok (.iload_n 2, 1) := by decide +kernel
theorem dX12_sit_83 : decode cX12_sit 83 = .ok (.iaload, 1) := by decide +kernel
theorem dX12_sit_84 : decode cX12_sit 84 = .ok (.aload_n 0, 1) := by decide +kernel
theorem dX12_sit_85 : decode cX12_sit 85 = .ok (.getfield 116, 3) := by decide +kernel
theorem dX12_sit_88 : decode cX12_sit 88 = .ok (.iload_n 1, 1) := by decide +kernel
theorem dX12_sit_89 : decode cX12_sit 89 = .ok (.iaload, 1) := by decide +kernel
theorem dX12_sit_90 : decode cX12_sit 90 = .ok (.if_icmp .ne 7, 3) := by decide +kernel
theorem dX12_sit_93 : decode cX12_sit 93 = .ok (.iload_n 3, 1) := by decide +kernel
theorem dX12_sit_94 : decode cX12_sit 94 = .ok (.ifCond .eq 10, 3) := by decide +kernel
theorem dX12_sit_97 : decode cX12_sit 97 = .ok (.aload_n 0, 1) := by decide +kernel
theorem dX12_sit_98 : decode cX12_sit 98 = .ok (.bipush (-3), 2) := by decide +kernel
theorem dX12_sit_100 : decode cX12_sit 100 = .ok (.invokevirtual 269, 3) := by decide +kernel
theorem dX12_sit_103 : decode cX12_sit 103 = .ok (.ireturn, 1) := by decide +kernel
theorem dX12_sit_104 : decode cX12_sit 104 = .ok (.aload_n 0, 1) := by decide +kernel
theorem dX12_sit_105 : decode cX12_sit 105 = .ok (.getfield 119, 3) := by decide +kernel
theorem dX12_sit_108 : decode cX12_sit 108 = .ok (.iload_n 1, 1) := by decide +kernel
theorem dX12_sit_109 : decode cX12_sit 109 = .ok (.iload_n 2, 1) := by decide +kernel
theorem dX12_sit_110 : decode cX12_sit 110 = .ok (.iastore, 1) := by decide +kernel
theorem dX12_sit_111 : decode cX12_sit 111 = .ok (.iconst 1, 1) := by decide +kernel
theorem dX12_sit_112 : decode cX12_sit 112 = .ok (.ireturn, 1) := by decide +kernel
theorem dX12_allSit_0 : decode cX12_allSit 0 = .ok (.iload_n 1, 1) := by decide +kernel
theorem dX12_allSit_1 : decode cX12_allSit 1 = .ok (.iconst 1, 1) := by decide +kernel
theorem dX12_allSit_2 : decode cX12_allSit 2 = .ok (.aload_n 0, 1) := by decide +kernel
theorem dX12_allSit_3 : decode cX12_allSit 3 = .ok (.getfield 357, 3) := by decide +kernel
theorem dX12_allSit_6 : decode cX12_allSit 6 = .ok (.ishl, 1) := by decide +kernel
theorem dX12_allSit_7 : decode cX12_allSit 7 = .ok (.if_icmp .ge 7, 3) := by decide +kernel
theorem dX12_allSit_10 : decode cX12_allSit 10 = .ok (.iconst 1, 1) := by decide +kernel
theorem dX12_allSit_11 : decode cX12_allSit 11 = .ok (.goto 4, 3) := by decide +kernel
theorem dX12_allSit_14 : decode cX12_allSit 14 = .ok (.iconst 0, 1) := by decide +kernel
theorem dX12_allSit_15 : decode cX12_allSit 15 = .ok (.istore_n 2, 1) := by decide +kernel
theorem dX12_allSit_16 : decode cX12_allSit 16 = .ok (.iconst 0, 1) := by decide +kernel
theorem dX12_allSit_17 : decode cX12_allSit 17 = .ok (.istore_n 3, 1) := by decide +kernel
theorem dX12_allSit_18 : decode cX12_allSit 18 = .ok (.iload_n 3, 1) := by decide +kernel
theorem dX12_allSit_19 : decode cX12_allSit 19 = .ok (.aload_n 0, 1) := by decide +kernel
theorem dX12_allSit_20 : decode cX12_allSit 20 = .ok (.getfield 357, 3) := by decide +kernel
theorem dX12_allSit_23 : decode cX12_allSit 23 = .ok (.if_icmp .ge 50, 3) := by decide +kernel
theorem dX12_allSit_26 : decode cX12_allSit 26 = .ok (.iload_n 2, 1) := by decide +kernel
theorem dX12_allSit_27 : decode cX12_allSit 27 = .ok (.ifCond .eq 38, 3) := by decide +kernel
theorem dX12_allSit_30 : decode cX12_allSit 30 = .ok (.iload_n 1, 1) := by decide +kernel
theorem dX12_allSit_31 : decode cX12_allSit 31 = .ok (.iload_n 3, 1) := by decide +kernel
theorem dX12_allSit_32 : decode cX12_allSit 32 = .ok (.ishr, 1) := by decide +kernel
theorem dX12_allSit_33 : decode cX12_allSit 33 = .ok (.iconst 1, 1) := by decide +kernel
theorem dX12_allSit_34 : decode cX12_allSit 34 = .ok (.iand, 1) := by decide +kernel
theorem dX12_allSit_35 : decode cX12_allSit 35 = .ok (.ifCond .eq 26, 3) := by decide +kernel
theorem dX12_allSit_38 : decode cX12_allSit 38 = .ok (.aload_n 0, 1) := by decide +kernel
theorem dX12_allSit_39 : decode cX12_allSit 39 = .ok (.getfield 119, 3) := by decide +kernel
theorem dX12_allSit_42 : decode cX12_allSit 42 = .ok (.iload_n 3, 1) := by decide +kernel
theorem dX12_allSit_43 : decode cX12_allSit 43 = .ok (.iaload, 1) := by decide +kernel
theorem dX12_allSit_44 : decode cX12_allSit 44 = .ok (.ifCond .lt 21, 3) := by decide +kernel
theorem dX12_allSit_47 : decode cX12_allSit 47 = .ok (.aload_n 0, 1) := by decide +kernel
theorem dX12_allSit_48 : decode cX12_allSit 48 = .ok (.getfield 29, 3) := by decide +kernel
theorem dX12_allSit_51 : decode cX12_allSit 51 = .ok (.aload_n 0, 1) := by decide +kernel
theorem dX12_allSit_52 : decode cX12_allSit 52 = .ok (.getfield 119, 3) := by decide +kernel
theorem dX12_allSit_55 : decode cX12_allSit 55 = .ok (.iload_n 3, 1) := by decide +kernel
theorem dX12_allSit_56 : decode cX12_allSit 56 = .ok (.iaload, 1) := by decide +kernel
theorem dX12_allSit_57 : decode cX12_allSit 57 = .ok (.baload, 1) := by decide +kernel
theorem dX12_allSit_58 : decode cX12_allSit 58 = .ok (.ifCond .ne 7, 3) := by decide +kernel
theorem dX12_allSit_61 : decode cX12_allSit 61 = .ok (.iconst 1, 1) := by decide +kernel
theorem dX12_allSit_62 : decode cX12_allSit 62 = .ok (.goto 4, 3) := by decide +kernel
theorem dX12_allSit_65 : decode cX12_allSit 65 = .ok (.iconst 0, 1) := by decide +kernel
theorem dX12_allSit_66 : decode cX12_allSit 66 = .ok (.istore_n 2, 1) := by decide +kernel
theorem dX12_allSit_67 : decode cX12_allSit 67 = .ok (.iinc 3 1, 3) := by decide +kernel
theorem dX12_allSit_70 : decode cX12_allSit 70 = .ok (.goto (-52), 3) := by decide +kernel
theorem dX12_allSit_73 : decode cX12_allSit 73 = .ok (.iload_n 2, 1) := by decide +kernel
theorem dX12_allSit_74 : decode cX12_allSit 74 = .ok (.ireturn, 1) := by decide +kernel
theorem dX12_session_0 : decode cX12_session 0 = .ok (.iload_n 1, 1) := by decide +kernel
theorem dX12_session_1 : decode cX12_session 1 = .ok (.ifCond .lt 7, 3) := by decide +kernel
theorem dX12_session_4 : decode cX12_session 4 = .ok (.iload_n 2, 1) := by decide +kernel
theorem dX12_session_5 : decode cX12_session 5 = .ok (.ifCond .ge 10, 3) := by decide +kernel
theorem dX12_session_8 : decode cX12_session 8 = .ok (.aload_n 0, 1) := by decide +kernel
theorem dX12_session_9 : decode cX12_session 9 = .ok (.bipush (-4), 2) := by decide +kernel
theorem dX12_session_11 : decode cX12_session 11 = .ok (.invokevirtual 269, 3) := by decide +kernel
theorem dX12_session_14 : decode cX12_session 14 = .ok (.ireturn, 1) := by decide +kernel
theorem dX12_session_15 : decode cX12_session 15 = .ok (.iload_n 1, 1) := by decide +kernel
theorem dX12_session_16 : decode cX12_session 16 = .ok (.aload_n 0, 1) := by decide +kernel
theorem dX12_session_17 : decode cX12_session 17 = .ok (.getfield 273, 3) := by decide +kernel
theorem dX12_session_20 : decode cX12_session 20 = .ok (.if_icmp .gt 11, 3) := by decide +kernel
theorem dX12_session_23 : decode cX12_session 23 = .ok (.aload_n 0, 1) := by decide +kernel
theorem dX12_session_24 : decode cX12_session 24 = .ok (.iload_n 2, 1) := by decide +kernel
theorem dX12_session_25 : decode cX12_session 25 = .ok (.invokevirtual 418, 3) := by decide +kernel
theorem dX12_session_28 : decode cX12_session 28 = .ok (.ifCond .ne 10, 3) := by decide +kernel
theorem dX12_session_31 : decode cX12_session 31 = .ok (.aload_n 0, 1) := by decide +kernel
theorem dX12_session_32 : decode cX12_session 32 = .ok (.bipush (-3), 2) := by decide +kernel
theorem dX12_session_34 : decode cX12_session 34 = .ok (.invokevirtual 269, 3) := by decide +kernel
theorem dX12_session_37 : decode cX12_session 37 = .ok (.ireturn, 1) := by decide +kernel
theorem dX12_session_38 : decode cX12_session 38 = .ok (.aload_n 0, 1) := by decide +kernel
theorem dX12_session_39 : decode cX12_session 39 = .ok (.getfield 421, 3) := by decide +kernel
theorem dX12_session_42 : decode cX12_session 42 = .ok (.bipush 30, 2) := by decide +kernel
theorem dX12_session_44 : decode cX12_session 44 = .ok (.if_icmp .ne 10, 3) := by decide +kernel
theorem dX12_session_47 : decode cX12_session 47 = .ok (.aload_n 0, 1) := by decide +kernel
theorem dX12_session_48 : decode cX12_session 48 = .ok (.bipush (-6), 2) := by decide +kernel
theorem dX12_session_50 : decode cX12_session 50 = .ok (.invokevirtual 269, 3) := by decide +kernel
theorem dX12_session_53 : decode cX12_session 53 = .ok (.ireturn, 1) := by decide +kernel
theorem dX12_session_54 : decode cX12_session 54 = .ok (.aload_n 0, 1) := by decide +kernel
theorem dX12_session_55 : decode cX12_session 55 = .ok (.getfield 125, 3) := by decide +kernel
theorem dX12_session_58 : decode cX12_session 58 = .ok (.aload_n 0, 1) := by decide +kernel
theorem dX12_session_59 : decode cX12_session 59 = .ok (.getfield 421, 3) := by decide +kernel
theorem dX12_session_62 : decode cX12_session 62 = .ok (.aload_n 0, 1) := by decide +kernel
theorem dX12_session_63 : decode cX12_session 63 = .ok (.getfield 273, 3) := by decide +kernel
theorem dX12_session_66 : decode cX12_session 66 = .ok (.iastore, 1) := by decide +kernel
theorem dX12_session_67 : decode cX12_session 67 = .ok (.aload_n 0, 1) := by decide +kernel
theorem dX12_session_68 : decode cX12_session 68 = .ok (.getfield 128, 3) := by decide +kernel
theorem dX12_session_71 : decode cX12_session 71 = .ok (.aload_n 0, 1) := by decide +kernel
theorem dX12_session_72 : decode cX12_session 72 = .ok (.getfield 421, 3) := by decide +kernel
theorem dX12_session_75 : decode cX12_session 75 = .ok (.iload_n 2, 1) := by decide +kernel
theorem dX12_session_76 : decode cX12_session 76 = .ok (.iastore, 1) := by decide +kernel
theorem dX12_session_77 : decode cX12_session 77 = .ok (.aload_n 0, 1) := by decide +kernel
theorem dX12_session_78 : decode cX12_session 78 = .ok (.getfield 131, 3) := by decide +kernel
theorem dX12_session_81 : decode cX12_session 81 = .ok (.aload_n 0, 1) := by decide +kernel
theorem dX12_session_82 : decode cX12_session 82 = .ok (.getfield 421, 3) := by decide +kernel
theorem dX12_session_85 : decode cX12_session 85 = .ok (.aload_n 0, 1) := by decide +kernel
theorem dX12_session_86 : decode cX12_session 86 = .ok (.getfield 273, 3) := by decide +kernel
theorem dX12_session_89 : decode cX12_session 89 = .ok (.iload_n 1, 1) := by decide +kernel
theorem dX12_session_90 : decode cX12_session 90 = .ok (.isub, 1) := by decide +kernel
theorem dX12_session_91 : decode cX12_session 91 = .ok (.aload_n 0, 1) := by decide +kernel
theorem dX12_session_92 : decode cX12_session 92 = .ok (.getfield 122, 3) := by decide +kernel
theorem dX12_session_95 : decode cX12_session 95 = .ok (.iconst 0, 1) := by decide +kernel
theorem dX12_session_96 : decode cX12_session 96 = .ok (.iaload, 1) := by decide +kernel
theorem dX12_session_97 : decode cX12_session 97 = .ok (.if_icmp .lt 20, 3) := by decide +kernel
theorem dX12_session_100 : decode cX12_session 100 = .ok (.iconst 2, 1) := by decide +kernel
theorem dX12_session_101 : decode cX12_session 101 = .ok (.iload_n 2, 1) := by decide +kernel
theorem dX12_session_102 : decode cX12_session 102 = .ok (.invokestatic 354, 3) := by decide +kernel
theorem dX12_session_105 : decode cX12_session 105 = .ok (.imul, 1) := by decide +kernel
theorem dX12_session_106 : decode cX12_session 106 = .ok (.aload_n 0, 1) := by decide +kernel
theorem dX12_session_107 : decode cX12_session 107 = .ok (.getfield 357, 3) := by decide +kernel
theorem dX12_session_110 : decode cX12_session 110 = .ok (.if_icmp .le 7, 3) := by decide +kernel
theorem dX12_session_113 : decode cX12_session 113 = .ok (.iconst 1, 1) := by decide +kernel
theorem dX12_session_114 : decode cX12_session 114 = .ok (.goto 4, 3) := by decide +kernel
theorem dX12_session_117 : decode cX12_session 117 = .ok (.iconst 0, 1) := by decide +kernel
theorem dX12_session_118 : decode cX12_session 118 = .ok (.bastore, 1) := by decide +kernel
theorem dX12_session_119 : decode cX12_session 119 = .ok (.aload_n 0, 1) := by decide +kernel
theorem dX12_session_120 : decode cX12_session 120 = .ok (.getfield 134, 3) := by decide +kernel
theorem dX12_session_123 : decode cX12_session 123 = .ok (.aload_n 0, 1) := by decide +kernel
theorem dX12_session_124 : decode cX12_session 124 = .ok (.getfield 421, 3) := by decide +kernel
theorem dX12_session_127 : decode cX12_session 127 = .ok (.ldc_w 353, 3) := by decide +kernel
theorem dX12_session_130 : decode cX12_session 130 = .ok (.iastore, 1) := by decide +kernel
theorem dX12_session_131 : decode cX12_session 131 = .ok (.aload_n 0, 1) := by decide +kernel
theorem dX12_session_132 : decode cX12_session 132 = .ok (.dup, 1) := by decide +kernel
theorem dX12_session_133 : decode cX12_session 133 = .ok (.getfield 421, 3) := by decide +kernel
theorem dX12_session_136 : decode cX12_session 136 = .ok (.iconst 1, 1) := by decide +kernel
theorem dX12_session_137 : decode cX12_session 137 = .ok (.iadd, 1) := by decide +kernel
theorem dX12_session_138 : decode cX12_session 138 = .ok (.putfield 421, 3) := by decide +kernel
theorem dX12_session_141 : decode cX12_session 141 = .ok (.aload_n 0, 1) := by decide +kernel
theorem dX12_session_142 : decode cX12_session 142 = .ok (.getfield 421, 3) := by decide +kernel
theorem dX12_session_145 : decode cX12_session 145 = .ok (.iconst 1, 1) := by decide +kernel
theorem dX12_session_146 : decode cX12_session 146 = .ok (.isub, 1) := by decide +kernel
theorem dX12_session_147 : decode cX12_session 147 = .ok (.ireturn, 1) := by decide +kernel
theorem dX12_vote_0 : decode cX12_vote 0 = .ok (.aload_n 0, 1) := by decide +kernel
theorem dX12_vote_1 : decode cX12_vote 1 = .ok (.iload_n 1, 1) := by decide +kernel
theorem dX12_vote_2 : decode cX12_vote 2 = .ok (.invokevirtual 405, 3) := by decide +kernel
theorem dX12_vote_5 : decode cX12_vote 5 = .ok (.ifCond .ne 9, 3) := by decide +kernel
theorem dX12_vote_8 : decode cX12_vote 8 = .ok (.aload_n 0, 1) := by decide +kernel
theorem dX12_vote_9 : decode cX12_vote 9 = .ok (.iconst (-1), 1) := by decide +kernel
theorem dX12_vote_10 : decode cX12_vote 10 = .ok (.invokevirtual 269, 3) := by decide +kernel
theorem dX12_vote_13 : decode cX12_vote 13 = .ok (.ireturn, 1) := by decide +kernel
theorem dX12_vote_14 : decode cX12_vote 14 = .ok (.aload_n 0, 1) := by decide +kernel
theorem dX12_vote_15 : decode cX12_vote 15 = .ok (.getfield 421, 3) := by decide +kernel
theorem dX12_vote_18 : decode cX12_vote 18 = .ok (.ifCond .eq 52, 3) := by decide +kernel
theorem dX12_vote_21 : decode cX12_vote 21 = .ok (.aload_n 0, 1) := by decide +kernel
theorem dX12_vote_22 : decode cX12_vote 22 = .ok (.getfield 125, 3) := by decide +kernel
theorem dX12_vote_25 : decode cX12_vote 25 = .ok (.aload_n 0, 1) := by decide +kernel
theorem dX12_vote_26 : decode cX12_vote 26 = .ok (.getfield 421, 3) := by decide +kernel
theorem dX12_vote_29 : decode cX12_vote 29 = .ok (.iconst 1, 1) := by decide +kernel
theorem dX12_vote_30 : decode cX12_vote 30 = .ok (.isub, 1) := by decide +kernel
theorem dX12_vote_31 : decode cX12_vote 31 = .ok (.iaload, 1) := by decide +kernel
theorem dX12_vote_32 : decode cX12_vote 32 = .ok (.aload_n 0, 1) := by decide +kernel
theorem dX12_vote_33 : decode cX12_vote 33 = .ok (.getfield 273, 3) := by decide +kernel
theorem dX12_vote_36 : decode cX12_vote 36 = .ok (.if_icmp .ne 34, 3) := by decide +kernel
theorem dX12_vote_39 : decode cX12_vote 39 = .ok (.aload_n 0, 1) := by decide +kernel
theorem dX12_vote_40 : decode cX12_vote 40 = .ok (.getfield 80, 3) := by decide +kernel
theorem dX12_vote_43 : decode cX12_vote 43 = .ok (.iload_n 1, 1) := by decide +kernel
theorem dX12_vote_44 : decode cX12_vote 44 = .ok (.iaload, 1) := by decide +kernel
theorem dX12_vote_45 : decode cX12_vote 45 = .ok (.iconst 2, 1) := by decide +kernel
theorem dX12_vote_46 : decode cX12_vote 46 = .ok (.if_icmp .lt 24, 3) := by decide +kernel
theorem dX12_vote_49 : decode cX12_vote 49 = .ok (.aload_n 0, 1) := by decide +kernel
theorem dX12_vote_50 : decode cX12_vote 50 = .ok (.iload_n 1, 1) := by decide +kernel
theorem dX12_vote_51 : decode cX12_vote 51 = .ok (.aload_n 0, 1) := by decide +kernel
theorem dX12_vote_52 : decode cX12_vote 52 = .ok (.getfield 273, 3) := by decide +kernel
theorem dX12_vote_55 : decode cX12_vote 55 = .ok (.aload_n 0, 1) := by decide +kernel
theorem dX12_vote_56 : decode cX12_vote 56 = .ok (.getfield 273, 3) := by decide +kernel
theorem dX12_vote_59 : decode cX12_vote 59 = .ok (.invokevirtual 402, 3) := by decide +kernel
theorem dX12_vote_62 : decode cX12_vote 62 = .ok (.iconst 2, 1) := by decide +kernel
theorem dX12_vote_63 : decode cX12_vote 63 = .ok (.iconst 3, 1) := by decide +kernel
theorem dX12_vote_64 : decode cX12_vote 64 = .ok (.invokestatic 262, 3) := by decide +kernel
theorem dX12_vote_67 : decode cX12_vote 67 = .ok (.ifCond .ne 10, 3) := by decide +kernel
theorem dX12_vote_70 : decode cX12_vote 70 = .ok (.aload_n 0, 1) := by decide +kernel
theorem dX12_vote_71 : decode cX12_vote 71 = .ok (.bipush (-3), 2) := by decide +kernel
theorem dX12_vote_73 : decode cX12_vote 73 = .ok (.invokevirtual 269, 3) := by decide +kernel
theorem dX12_vote_76 : decode cX12_vote 76 = .ok (.ireturn, 1) := by decide +kernel
theorem dX12_vote_77 : decode cX12_vote 77 = .ok (.aload_n 0, 1) := by decide +kernel
theorem dX12_vote_78 : decode cX12_vote 78 = .ok (.getfield 128, 3) := by decide +kernel
theorem dX12_vote_81 : decode cX12_vote 81 = .ok (.aload_n 0, 1) := by decide +kernel
theorem dX12_vote_82 : decode cX12_vote 82 = .ok (.getfield 421, 3) := by decide +kernel
theorem dX12_vote_85 : decode cX12_vote 85 = .ok (.iconst 1, 1) := by decide +kernel
theorem dX12_vote_86 : decode cX12_vote 86 = .ok (.isub, 1) := by decide +kernel
theorem dX12_vote_87 : decode cX12_vote 87 = .ok (.iaload, 1) := by decide +kernel
theorem dX12_vote_88 : decode cX12_vote 88 = .ok (.istore 4, 2) := by decide +kernel
theorem dX12_vote_90 : decode cX12_vote 90 = .ok (.iload_n 2, 1) := by decide +kernel
theorem dX12_vote_91 : decode cX12_vote 91 = .ok (.ifCond .lt 31, 3) := by decide +kernel
theorem dX12_vote_94 : decode cX12_vote 94 = .ok (.iload_n 3, 1) := by decide +kernel
theorem dX12_vote_95 : decode cX12_vote 95 = .ok (.ifCond .lt 27, 3) := by decide +kernel
theorem dX12_vote_98 : decode cX12_vote 98 = .ok (.iload_n 2, 1) := by decide +kernel
theorem dX12_vote_99 : decode cX12_vote 99 = .ok (.iload 4, 2) := by decide +kernel
theorem dX12_vote_101 : decode cX12_vote 101 = .ok (.iconst (-1), 1) := by decide +kernel
theorem dX12_vote_102 : decode cX12_vote 102 = .ok (.ixor, 1) := by decide +kernel
theorem dX12_vote_103 : decode cX12_vote 103 = .ok (.iand, 1) := by decide +kernel
theorem dX12_vote_104 : decode cX12_vote 104 = .ok (.ifCond .ne 18, 3) := by decide +kernel
theorem dX12_vote_107 : decode cX12_vote 107 = .ok (.iload_n 3, 1) := by decide +kernel
theorem dX12_vote_108 : decode cX12_vote 108 = .ok (.iload 4, 2) := by decide +kernel
theorem dX12_vote_110 : decode cX12_vote 110 = .ok (.iconst (-1), 1) := by decide +kernel
theorem dX12_vote_111 : decode cX12_vote 111 = .ok (.ixor, 1) := by decide +kernel
theorem dX12_vote_112 : decode cX12_vote 112 = .ok (.iand, 1) := by decide +kernel
theorem dX12_vote_113 : decode cX12_vote 113 = .ok (.ifCond .ne 9, 3) := by decide +kernel
theorem dX12_vote_116 : decode cX12_vote 116 = .ok (.iload_n 2, 1) := by decide +kernel
theorem dX12_vote_117 : decode cX12_vote 117 = .ok (.iload_n 3, 1) := by decide +kernel
theorem dX12_vote_118 : decode cX12_vote 118 = .ok (.iand, 1) := by decide +kernel
theorem dX12_vote_119 : decode cX12_vote 119 = .ok (.ifCond .eq 10, 3) := by decide +kernel
theorem dX12_vote_122 : decode cX12_vote 122 = .ok (.aload_n 0, 1) := by decide +kernel
theorem dX12_vote_123 : decode cX12_vote 123 = .ok (.bipush (-3), 2) := by decide +kernel
theorem dX12_vote_125 : decode cX12_vote 125 = .ok (.invokevirtual 269, 3) := by decide +kernel
theorem dX12_vote_128 : decode cX12_vote 128 = .ok (.ireturn, 1) := by decide +kernel
theorem dX12_vote_129 : decode cX12_vote 129 = .ok (.aload_n 0, 1) := by decide +kernel
theorem dX12_vote_130 : decode cX12_vote 130 = .ok (.getfield 98, 3) := by decide +kernel
theorem dX12_vote_133 : decode cX12_vote 133 = .ok (.iload_n 1, 1) := by decide +kernel
theorem dX12_vote_134 : decode cX12_vote 134 = .ok (.iaload, 1) := by decide +kernel
theorem dX12_vote_135 : decode cX12_vote 135 = .ok (.bipush 30, 2) := by decide +kernel
theorem dX12_vote_137 : decode cX12_vote 137 = .ok (.if_icmp .ne 10, 3) := by decide +kernel
theorem dX12_vote_140 : decode cX12_vote 140 = .ok (.aload_n 0, 1) := by decide +kernel
theorem dX12_vote_141 : decode cX12_vote 141 = .ok (.bipush (-6), 2) := by decide +kernel
theorem dX12_vote_143 : decode cX12_vote 143 = .ok (.invokevirtual 269, 3) := by decide +kernel
theorem dX12_vote_146 : decode cX12_vote 146 = .ok (.ireturn, 1) := by decide +kernel
theorem dX12_vote_147 : decode cX12_vote 147 = .ok (.iconst 2, 1) := by decide +kernel
theorem dX12_vote_148 : decode cX12_vote 148 = .ok (.iload_n 2, 1) := by decide +kernel
theorem dX12_vote_149 : decode cX12_vote 149 = .ok (.invokestatic 354, 3) := by decide +kernel
theorem dX12_vote_152 : decode cX12_vote 152 = .ok (.imul, 1) := by decide +kernel
theorem dX12_vote_153 : decode cX12_vote 153 = .ok (.iload 4, 2) := by decide +kernel
theorem dX12_vote_155 : decode cX12_vote 155 = .ok (.invokestatic 354, 3) := by decide +kernel
theorem dX12_vote_158 : decode cX12_vote 158 = .ok (.if_icmp .le 7, 3) := by decide +kernel
theorem dX12_vote_161 : decode cX12_vote 161 = .ok (.iconst 1, 1) := by decide +kernel
theorem dX12_vote_162 : decode cX12_vote 162 = .ok (.goto 4, 3) := by decide +kernel
theorem dX12_vote_165 : decode cX12_vote 165 = .ok (.iconst 0, 1) := by decide +kernel
theorem dX12_vote_166 : decode cX12_vote 166 = .ok (.istore 5, 2) := by decide +kernel
theorem dX12_vote_168 : decode cX12_vote 168 = .ok (.aload_n 0, 1) := by decide +kernel
theorem dX12_vote_169 : decode cX12_vote 169 = .ok (.iload_n 1, 1) := by decide +kernel
theorem dX12_vote_170 : decode cX12_vote 170 = .ok (.iconst 3, 1) := by decide +kernel
theorem dX12_vote_171 : decode cX12_vote 171 = .ok (.iload 5, 2) := by decide +kernel
theorem dX12_vote_173 : decode cX12_vote 173 = .ok (.aload_n 0, 1) := by decide +kernel
theorem dX12_vote_174 : decode cX12_vote 174 = .ok (.getfield 421, 3) := by decide +kernel
theorem dX12_vote_177 : decode cX12_vote 177 = .ok (.iconst 1, 1) := by decide +kernel
theorem dX12_vote_178 : decode cX12_vote 178 = .ok (.isub, 1) := by decide +kernel
theorem dX12_vote_179 : decode cX12_vote 179 = .ok (.invokevirtual 408, 3) := by decide +kernel
theorem dX12_vote_182 : decode cX12_vote 182 = .ok (.iload 5, 2) := by decide +kernel
theorem dX12_vote_184 : decode cX12_vote 184 = .ok (.ireturn, 1) := by decide +kernel
theorem dX12_isSession_0 : decode cX12_isSession 0 = .ok (.iload_n 1, 1) := by decide +kernel
theorem dX12_isSession_1 : decode cX12_isSession 1 = .ok (.iconst 0, 1) := by decide +kernel
theorem dX12_isSession_2 : decode cX12_isSession 2 = .ok (.aload_n 0, 1) := by decide +kernel
theorem dX12_isSession_3 : decode cX12_isSession 3 = .ok (.getfield 421, 3) := by decide +kernel
theorem dX12_isSession_6 : decode cX12_isSession 6 = .ok (.iconst 1, 1) := by decide +kernel
theorem dX12_isSession_7 : decode cX12_isSession 7 = .ok (.isub, 1) := by decide +kernel
theorem dX12_isSession_8 : decode cX12_isSession 8 = .ok (.invokestatic 262, 3) := by decide +kernel
theorem dX12_isSession_11 : decode cX12_isSession 11 = .ok (.ireturn, 1) := by decide +kernel
theorem dX12_sessionOf_0 : decode cX12_sessionOf 0 = .ok (.aload_n 0, 1) := by decide +kernel
theorem dX12_sessionOf_1 : decode cX12_sessionOf 1 = .ok (.iload_n 1, 1) := by decide +kernel
theorem dX12_sessionOf_2 : decode cX12_sessionOf 2 = .ok (.invokevirtual 424, 3) := by decide +kernel
theorem dX12_sessionOf_5 : decode cX12_sessionOf 5 = .ok (.ifCond .ne 9, 3) := by decide +kernel
theorem dX12_sessionOf_8 : decode cX12_sessionOf 8 = .ok (.aload_n 0, 1) := by decide +kernel
theorem dX12_sessionOf_9 : decode cX12_sessionOf 9 = .ok (.iconst (-1), 1) := by decide +kernel
theorem dX12_sessionOf_10 : decode cX12_sessionOf 10 = .ok (.invokevirtual 269, 3) := by decide +kernel
theorem dX12_sessionOf_13 : decode cX12_sessionOf 13 = .ok (.ireturn, 1) := by decide +kernel
theorem dX12_sessionOf_14 : decode cX12_sessionOf 14 = .ok (.iload_n 2, 1) := by decide +kernel
theorem dX12_sessionOf_15 : decode cX12_sessionOf 15 = .ok (.iconst 0, 1) := by decide +kernel
theorem dX12_sessionOf_16 : decode cX12_sessionOf 16 = .ok (.iconst 3, 1) := by decide +kernel
theorem dX12_sessionOf_17 : decode cX12_sessionOf 17 = .ok (.invokestatic 262, 3) := by decide +kernel
theorem dX12_sessionOf_20 : decode cX12_sessionOf 20 = .ok (.ifCond .ne 10, 3) := by decide +kernel
theorem dX12_sessionOf_23 : decode cX12_sessionOf 23 = .ok (.aload_n 0, 1) := by decide +kernel
theorem dX12_sessionOf_24 : decode cX12_sessionOf 24 = .ok (.bipush (-2), 2) := by decide +kernel
theorem dX12_sessionOf_26 : decode cX12_sessionOf 26 = .ok (.invokevirtual 269, 3) := by decide +kernel
theorem dX12_sessionOf_29 : decode cX12_sessionOf 29 = .ok (.ireturn, 1) := by decide +kernel
theorem dX12_sessionOf_30 : decode cX12_sessionOf 30 = .ok (.iload_n 2, 1) := by decide +kernel
theorem dX12_sessionOf_31 : decode cX12_sessionOf 31 = .ok (.ifCond .ne 12, 3) := by decide +kernel
theorem dX12_sessionOf_34 : decode cX12_sessionOf 34 = .ok (.aload_n 0, 1) := by decide +kernel
theorem dX12_sessionOf_35 : decode cX12_sessionOf 35 = .ok (.getfield 125, 3) := by decide +kernel
theorem dX12_sessionOf_38 : decode cX12_sessionOf 38 = .ok (.iload_n 1, 1) := by decide +kernel
theorem dX12_sessionOf_39 : decode cX12_sessionOf 39 = .ok (.iaload, 1) := by decide +kernel
theorem dX12_sessionOf_40 : decode cX12_sessionOf 40 = .ok (.goto 56, 3) := by decide +kernel
theorem dX12_sessionOf_43 : decode cX12_sessionOf 43 = .ok (.iload_n 2, 1) := by decide +kernel
theorem dX12_sessionOf_44 : decode cX12_sessionOf 44 = .ok (.iconst 1, 1) := by decide +kernel
theorem dX12_sessionOf_45 : decode cX12_sessionOf 45 = .ok (.if_icmp .ne 12, 3) := by decide +kernel
theorem dX12_sessionOf_48 : decode cX12_sessionOf 48 = .ok (.aload_n 0, 1) := by decide +kernel
theorem dX12_sessionOf_49 : decode cX12_sessionOf 49 = .ok (.getfield 128, 3) := by decide +kernel
theorem dX12_sessionOf_52 : decode cX12_sessionOf 52 = .ok (.iload_n 1, 1) := by decide +kernel
theorem dX12_sessionOf_53 : decode cX12_sessionOf 53 = .ok (.iaload, 1) := by decide +kernel
theorem dX12_sessionOf_54 : decode cX12_sessionOf 54 = .ok (.goto 42, 3) := by decide +kernel
theorem dX12_sessionOf_57 : decode cX12_sessionOf 57 = .ok (.iload_n 2, 1) := by decide +kernel
theorem dX12_sessionOf_58 : decode cX12_sessionOf 58 = .ok (.iconst 2, 1) := by decide +kernel
theorem dX12_sessionOf_59 : decode cX12_sessionOf 59 = .ok (.if_icmp .ne 20, 3) := by decide +kernel
theorem dX12_sessionOf_62 : decode cX12_sessionOf 62 = .ok (.aload_n 0, 1) := by decide +kernel
theorem dX12_sessionOf_63 : decode cX12_sessionOf 63 = .ok (.getfield 131, 3) := by decide +kernel
theorem dX12_sessionOf_66 : decode cX12_sessionOf 66 = .ok (.iload_n 1, 1) := by decide +kernel
theorem dX12_sessionOf_67 : decode cX12_sessionOf 67 = .ok (.baload, 1) := by decide +kernel
theorem dX12_sessionOf_68 : decode cX12_sessionOf 68 = .ok (.ifCond .eq 7, 3) := by decide +kernel
theorem dX12_sessionOf_71 : decode cX12_sessionOf 71 = .ok (.iconst 1, 1) := by decide +kernel
theorem dX12_sessionOf_72 : decode cX12_sessionOf 72 = .ok (.goto 24, 3) := by decide +kernel
theorem dX12_sessionOf_75 : decode cX12_sessionOf 75 = .ok (.iconst 0, 1) := by decide +kernel
theorem dX12_sessionOf_76 : decode cX12_sessionOf 76 = .ok (.goto 20, 3) := by decide +kernel
theorem dX12_sessionOf_79 : decode cX12_sessionOf 79 = .ok (.aload_n 0, 1) := by decide +kernel
theorem dX12_sessionOf_80 : decode cX12_sessionOf 80 = .ok (.getfield 134, 3) := by decide +kernel
theorem dX12_sessionOf_83 : decode cX12_sessionOf 83 = .ok (.iload_n 1, 1) := by decide +kernel
theorem dX12_sessionOf_84 : decode cX12_sessionOf 84 = .ok (.iaload, 1) := by decide +kernel
theorem dX12_sessionOf_85 : decode cX12_sessionOf 85 = .ok (.ldc_w 353, 3) := by decide +kernel
theorem dX12_sessionOf_88 : decode cX12_sessionOf 88 = .ok (.if_icmp .ge 7, 3) := by decide +kernel
theorem dX12_sessionOf_91 : decode cX12_sessionOf 91 = .ok (.iconst 1, 1) := by decide +kernel
theorem dX12_sessionOf_92 : decode cX12_sessionOf 92 = .ok (.goto 4, 3) := by decide +kernel
theorem dX12_sessionOf_95 : decode cX12_sessionOf 95 = .ok (.iconst 0, 1) := by decide +kernel
theorem dX12_sessionOf_96 : decode cX12_sessionOf 96 = .ok (.ireturn, 1) := by decide +kernel
theorem dX12_voids_0 : decode cX12_voids 0 = .ok (.aload_n 0, 1) := by decide +kernel
theorem dX12_voids_1 : decode cX12_voids 1 = .ok (.iload_n 1, 1) := by decide +kernel
theorem dX12_voids_2 : decode cX12_voids 2 = .ok (.invokevirtual 424, 3) := by decide +kernel
theorem dX12_voids_5 : decode cX12_voids 5 = .ok (.ifCond .ne 9, 3) := by decide +kernel
theorem dX12_voids_8 : decode cX12_voids 8 = .ok (.aload_n 0, 1) := by decide +kernel
theorem dX12_voids_9 : decode cX12_voids 9 = .ok (.iconst (-1), 1) := by decide +kernel
theorem dX12_voids_10 : decode cX12_voids 10 = .ok (.invokevirtual 269, 3) := by decide +kernel
theorem dX12_voids_13 : decode cX12_voids 13 = .ok (.ireturn, 1) := by decide +kernel
theorem dX12_voids_14 : decode cX12_voids 14 = .ok (.aload_n 0, 1) := by decide +kernel
theorem dX12_voids_15 : decode cX12_voids 15 = .ok (.getfield 131, 3) := by decide +kernel
theorem dX12_voids_18 : decode cX12_voids 18 = .ok (.iload_n 1, 1) := by decide +kernel
theorem dX12_voids_19 : decode cX12_voids 19 = .ok (.baload, 1) := by decide +kernel
theorem dX12_voids_20 : decode cX12_voids 20 = .ok (.ifCond .ne 15, 3) := by decide +kernel
theorem dX12_voids_23 : decode cX12_voids 23 = .ok (.aload_n 0, 1) := by decide +kernel
theorem dX12_voids_24 : decode cX12_voids 24 = .ok (.getfield 134, 3) := by decide +kernel
theorem dX12_voids_27 : decode cX12_voids 27 = .ok (.iload_n 1, 1) := by decide +kernel
theorem dX12_voids_28 : decode cX12_voids 28 = .ok (.iaload, 1) := by decide +kernel
theorem dX12_voids_29 : decode cX12_voids 29 = .ok (.ldc_w 353, 3) := by decide +kernel
theorem dX12_voids_32 : decode cX12_voids 32 = .ok (.if_icmp .ge 10, 3) := by decide +kernel
theorem dX12_voids_35 : decode cX12_voids 35 = .ok (.aload_n 0, 1) := by decide +kernel
theorem dX12_voids_36 : decode cX12_voids 36 = .ok (.bipush (-3), 2) := by decide +kernel
theorem dX12_voids_38 : decode cX12_voids 38 = .ok (.invokevirtual 269, 3) := by decide +kernel
theorem dX12_voids_41 : decode cX12_voids 41 = .ok (.ireturn, 1) := by decide +kernel
theorem dX12_voids_42 : decode cX12_voids 42 = .ok (.aload_n 0, 1) := by decide +kernel
theorem dX12_voids_43 : decode cX12_voids 43 = .ok (.getfield 134, 3) := by decide +kernel
theorem dX12_voids_46 : decode cX12_voids 46 = .ok (.iload_n 1, 1) := by decide +kernel
theorem dX12_voids_47 : decode cX12_voids 47 = .ok (.aload_n 0, 1) := by decide +kernel
theorem dX12_voids_48 : decode cX12_voids 48 = .ok (.getfield 273, 3) := by decide +kernel
theorem dX12_voids_51 : decode cX12_voids 51 = .ok (.iastore, 1) := by decide +kernel
theorem dX12_voids_52 : decode cX12_voids 52 = .ok (.iconst 0, 1) := by decide +kernel
theorem dX12_voids_53 : decode cX12_voids 53 = .ok (.istore_n 2, 1) := by decide +kernel
theorem dX12_voids_54 : decode cX12_voids 54 = .ok (.iconst 0, 1) := by decide +kernel
theorem dX12_voids_55 : decode cX12_voids 55 = .ok (.istore_n 3, 1) := by decide +kernel
theorem dX12_voids_56 : decode cX12_voids 56 = .ok (.iload_n 3, 1) := by decide +kernel
theorem dX12_voids_57 : decode cX12_voids 57 = .ok (.aload_n 0, 1) := by decide +kernel
theorem dX12_voids_58 : decode cX12_voids 58 = .ok (.getfield 381, 3) := by decide +kernel
theorem dX12_voids_61 : decode cX12_voids 61 = .ok (.if_icmp .ge 67, 3) := by decide +kernel
theorem dX12_voids_64 : decode cX12_voids 64 = .ok (.bipush 30, 2) := by decide +kernel
theorem dX12_voids_66 : decode cX12_voids 66 = .ok (.iload_n 3, 1) := by decide +kernel
theorem dX12_voids_67 : decode cX12_voids 67 = .ok (.imul, 1) := by decide +kernel
theorem dX12_voids_68 : decode cX12_voids 68 = .ok (.istore 4, 2) := by decide +kernel
theorem dX12_voids_70 : decode cX12_voids 70 = .ok (.iload 4, 2) := by decide +kernel
theorem dX12_voids_72 : decode cX12_voids 72 = .ok (.bipush 30, 2) := by decide +kernel
theorem dX12_voids_74 : decode cX12_voids 74 = .ok (.iload_n 3, 1) := by decide +kernel
theorem dX12_voids_75 : decode cX12_voids 75 = .ok (.imul, 1) := by decide +kernel
theorem dX12_voids_76 : decode cX12_voids 76 = .ok (.aload_n 0, 1) := by decide +kernel
theorem dX12_voids_77 : decode cX12_voids 77 = .ok (.getfield 98, 3) := by decide +kernel
theorem dX12_voids_80 : decode cX12_voids 80 = .ok (.iload_n 3, 1) := by decide +kernel
theorem dX12_voids_81 : decode cX12_voids 81 = .ok (.iaload, 1) := by decide +kernel
theorem dX12_voids_82 : decode cX12_voids 82 = .ok (.iadd, 1) := by decide +kernel
theorem dX12_voids_83 : decode cX12_voids 83 = .ok (.if_icmp .ge 39, 3) := by decide +kernel
theorem dX12_voids_86 : decode cX12_voids 86 = .ok (.iload_n 2, 1) := by decide +kernel
theorem dX12_voids_87 : decode cX12_voids 87 = .ok (.aload_n 0, 1) := by decide +kernel
theorem dX12_voids_88 : decode cX12_voids 88 = .ok (.getfield 101, 3) := by decide +kernel
theorem dX12_voids_91 : decode cX12_voids 91 = .ok (.iload 4, 2) := by decide +kernel
theorem dX12_voids_93 : decode cX12_voids 93 = .ok (.iaload, 1) := by decide +kernel
theorem dX12_voids_94 : decode cX12_voids 94 = .ok (.iconst 3, 1) := by decide +kernel
theorem dX12_voids_95 : decode cX12_voids 95 = .ok (.if_icmp .ne 18, 3) := by decide +kernel
theorem dX12_voids_98 : decode cX12_voids 98 = .ok (.aload_n 0, 1) := by decide +kernel
theorem dX12_voids_99 : decode cX12_voids 99 = .ok (.getfield 110, 3) := by decide +kernel
theorem dX12_voids_102 : decode cX12_voids 102 = .ok (.iload 4, 2) := by decide +kernel
theorem dX12_voids_104 : decode cX12_voids 104 = .ok (.iaload, 1) := by decide +kernel
theorem dX12_voids_105 : decode cX12_voids 105 = .ok (.iload_n 1, 1) := by decide +kernel
theorem dX12_voids_106 : decode cX12_voids 106 = .ok (.if_icmp .ne 7, 3) := by decide +kernel
theorem dX12_voids_109 : decode cX12_voids 109 = .ok (.iconst 1, 1) := by decide +kernel
theorem dX12_voids_110 : decode cX12_voids 110 = .ok (.goto 4, 3) := by decide +kernel
theorem dX12_voids_113 : decode cX12_voids 113 = .ok (.iconst 0, 1) := by decide +kernel
theorem dX12_voids_114 : decode cX12_voids 114 = .ok (.iadd, 1) := by decide +kernel
theorem dX12_voids_115 : decode cX12_voids 115 = .ok (.istore_n 2, 1) := by decide +kernel
theorem dX12_voids_116 : decode cX12_voids 116 = .ok (.iinc 4 1, 3) := by decide +kernel
theorem dX12_voids_119 : decode cX12_voids 119 = .ok (.goto (-49), 3) := by decide +kernel
theorem dX12_voids_122 : decode cX12_voids 122 = .ok (.iinc 3 1, 3) := by decide +kernel
theorem dX12_voids_125 : decode cX12_voids 125 = .ok (.goto (-69), 3) := by decide +kernel
theorem dX12_voids_128 : decode cX12_voids 128 = .ok (.iload_n 2, 1) := by decide +kernel
theorem dX12_voids_129 : decode cX12_voids 129 = .ok (.ireturn, 1) := by decide +kernel
theorem dX12_set_0 : decode cX12_set 0 = .ok (.iload_n 1, 1) := by decide +kernel
theorem dX12_set_1 : decode cX12_set 1 = .ok (.iconst 0, 1) := by decide +kernel
theorem dX12_set_2 : decode cX12_set 2 = .ok (.iconst 4, 1) := by decide +kernel
theorem dX12_set_3 : decode cX12_set 3 = .ok (.invokestatic 262, 3) := by decide +kernel
theorem dX12_set_6 : decode cX12_set 6 = .ok (.ifCond .ne 10, 3) := by decide +kernel
theorem dX12_set_9 : decode cX12_set 9 = .ok (.aload_n 0, 1) := by decide +kernel
theorem dX12_set_10 : decode cX12_set 10 = .ok (.bipush (-2), 2) := by decide +kernel
theorem dX12_set_12 : decode cX12_set 12 = .ok (.invokevirtual 269, 3) := by decide +kernel
theorem dX12_set_15 : decode cX12_set 15 = .ok (.ireturn, 1) := by decide +kernel
theorem dX12_set_16 : decode cX12_set 16 = .ok (.iload_n 2, 1) := by decide +kernel
theorem dX12_set_17 : decode cX12_set 17 = .ok (.iload_n 1, 1) := by decide +kernel
theorem dX12_set_18 : decode cX12_set 18 = .ok (.iconst 3, 1) := by decide +kernel
theorem dX12_set_19 : decode cX12_set 19 = .ok (.if_icmp .ne 7, 3) := by decide +kernel
theorem dX12_set_22 : decode cX12_set 22 = .ok (.iconst 3, 1) := by decide +kernel
theorem dX12_set_23 : decode cX12_set 23 = .ok (.goto 4, 3) := by decide +kernel
theorem dX12_set_26 : decode cX12_set 26 = .ok (.iconst 0, 1) := by decide +kernel
theorem dX12_set_27 : decode cX12_set 27 = .ok (.if_icmp .ge 10, 3) := by decide +kernel
theorem dX12_set_30 : decode cX12_set 30 = .ok (.aload_n 0, 1) := by decide +kernel
theorem dX12_set_31 : decode cX12_set 31 = .ok (.bipush (-4), 2) := by decide +kernel
theorem dX12_set_33 : decode cX12_set 33 = .ok (.invokevirtual 269, 3) := by decide +kernel
theorem dX12_set_36 : decode cX12_set 36 = .ok (.ireturn, 1) := by decide +kernel
theorem dX12_set_37 : decode cX12_set 37 = .ok (.iload_n 2, 1) := by decide +kernel
theorem dX12_set_38 : decode cX12_set 38 = .ok (.iload_n 1, 1) := by decide +kernel
theorem dX12_set_39 : decode cX12_set 39 = .ok (.ifCond .ne 8, 3) := by decide +kernel
theorem dX12_set_42 : decode cX12_set 42 = .ok (.bipush 20, 2) := by decide +kernel
theorem dX12_set_44 : decode cX12_set 44 = .ok (.goto 36, 3) := by decide +kernel
theorem dX12_set_47 : decode cX12_set 47 = .ok (.iload_n 1, 1) := by decide +kernel
theorem dX12_set_48 : decode cX12_set 48 = .ok (.iconst 1, 1) := by decide +kernel
theorem dX12_set_49 : decode cX12_set 49 = .ok (.if_icmp .ne 9, 3) := by decide +kernel
theorem dX12_set_52 : decode cX12_set 52 = .ok (.sipush 200, 3) := by decide +kernel
theorem dX12_set_55 : decode cX12_set 55 = .ok (.goto 25, 3) := by decide +kernel
theorem dX12_set_58 : decode cX12_set 58 = .ok (.iload_n 1, 1) := by decide +kernel
theorem dX12_set_59 : decode cX12_set 59 = .ok (.iconst 2, 1) := by decide +kernel
theorem dX12_set_60 : decode cX12_set 60 = .ok (.if_icmp .ne 9, 3) := by decide +kernel
theorem dX12_set_63 : decode cX12_set 63 = .ok (.sipush 1000, 3) := by decide +kernel
theorem dX12_set_66 : decode cX12_set 66 = .ok (.goto 14, 3) := by decide +kernel
theorem dX12_set_69 : decode cX12_set 69 = .ok (.iload_n 1, 1) := by decide +kernel
theorem dX12_set_70 : decode cX12_set 70 = .ok (.iconst 3, 1) := by decide +kernel
theorem dX12_set_71 : decode cX12_set 71 = .ok (.if_icmp .ne 8, 3) := by decide +kernel
theorem dX12_set_74 : decode cX12_set 74 = .ok (.bipush 9, 2) := by decide +kernel
theorem dX12_set_76 : decode cX12_set 76 = .ok (.goto 4, 3) := by decide +kernel
theorem dX12_set_79 : decode cX12_set 79 = .ok (.iconst 4, 1) := by decide +kernel
theorem dX12_set_80 : decode cX12_set 80 = .ok (.if_icmp .le 10, 3) := by decide +kernel
theorem dX12_set_83 : decode cX12_set 83 = .ok (.aload_n 0, 1) := by decide +kernel
theorem dX12_set_84 : decode cX12_set 84 = .ok (.bipush (-6), 2) := by decide +kernel
theorem dX12_set_86 : decode cX12_set 86 = .ok (.invokevirtual 269, 3) := by decide +kernel
theorem dX12_set_89 : decode cX12_set 89 = .ok (.ireturn, 1) := by decide +kernel
theorem dX12_set_90 : decode cX12_set 90 = .ok (.aload_n 0, 1) := by decide +kernel
theorem dX12_set_91 : decode cX12_set 91 = .ok (.getfield 122, 3) := by decide +kernel
theorem dX12_set_94 : decode cX12_set 94 = .ok (.iload_n 1, 1) := by decide +kernel
theorem dX12_set_95 : decode cX12_set 95 = .ok (.iaload, 1) := by decide +kernel
theorem dX12_set_96 : decode cX12_set 96 = .ok (.istore_n 3, 1) := by decide +kernel
theorem dX12_set_97 : decode cX12_set 97 = .ok (.aload_n 0, 1) := by decide +kernel
theorem dX12_set_98 : decode cX12_set 98 = .ok (.getfield 122, 3) := by decide +kernel
theorem dX12_set_101 : decode cX12_set 101 = .ok (.iload_n 1, 1) := by decide +kernel
theorem dX12_set_102 : decode cX12_set 102 = .ok (.iload_n 2, 1) := by decide +kernel
theorem dX12_set_103 : decode cX12_set 103 = .ok (.iastore, 1) := by decide +kernel
theorem dX12_set_104 : decode cX12_set 104 = .ok (.aload_n 0, 1) := by decide +kernel
theorem dX12_set_105 : decode cX12_set 105 = .ok (.iconst (-1), 1) := by decide +kernel
theorem dX12_set_106 : decode cX12_set 106 = .ok (.putfield 218, 3) := by decide +kernel
theorem dX12_set_109 : decode cX12_set 109 = .ok (.iload_n 3, 1) := by decide +kernel
theorem dX12_set_110 : decode cX12_set 110 = .ok (.ireturn, 1) := by decide +kernel
theorem dX12_agrees_0 : decode cX12_agrees 0 = .ok (.aload_n 0, 1) := by decide +kernel
theorem dX12_agrees_1 : decode cX12_agrees 1 = .ok (.iload_n 1, 1) := by decide +kernel
theorem dX12_agrees_2 : decode cX12_agrees 2 = .ok (.iload_n 2, 1) := by decide +kernel
theorem dX12_agrees_3 : decode cX12_agrees 3 = .ok (.aload_n 0, 1) := by decide +kernel
theorem dX12_agrees_4 : decode cX12_agrees 4 = .ok (.getfield 273, 3) := by decide +kernel
theorem dX12_agrees_7 : decode cX12_agrees 7 = .ok (.invokevirtual 402, 3) := by decide +kernel
theorem dX12_agrees_10 : decode cX12_agrees 10 = .ok (.istore_n 3, 1) := by decide +kernel
theorem dX12_agrees_11 : decode cX12_agrees 11 = .ok (.iload_n 3, 1) := by decide +kernel
theorem dX12_agrees_12 : decode cX12_agrees 12 = .ok (.iconst 4, 1) := by decide +kernel
theorem dX12_agrees_13 : decode cX12_agrees 13 = .ok (.if_icmp .eq 15, 3) := by decide +kernel
theorem dX12_agrees_16 : decode cX12_agrees 16 = .ok (.iload_n 3, 1) := by decide +kernel
theorem dX12_agrees_17 : decode cX12_agrees 17 = .ok (.bipush 6, 2) := by decide +kernel
theorem dX12_agrees_19 : decode cX12_agrees 19 = .ok (.if_icmp .eq 9, 3) := by decide +kernel
theorem dX12_agrees_22 : decode cX12_agrees 22 = .ok (.iload_n 3, 1) := by decide +kernel
theorem dX12_agrees_23 : decode cX12_agrees 23 = .ok (.bipush 8, 2) := by decide +kernel
theorem dX12_agrees_25 : decode cX12_agrees 25 = .ok (.if_icmp .ne 7, 3) := by decide +kernel
theorem dX12_agrees_28 : decode cX12_agrees 28 = .ok (.iconst 1, 1) := by decide +kernel
theorem dX12_agrees_29 : decode cX12_agrees 29 = .ok (.goto 4, 3) := by decide +kernel
theorem dX12_agrees_32 : decode cX12_agrees 32 = .ok (.iconst 0, 1) := by decide +kernel
theorem dX12_agrees_33 : decode cX12_agrees 33 = .ok (.ireturn, 1) := by decide +kernel
theorem dX12_agree_0 : decode cX12_agree 0 = .ok (.aload_n 0, 1) := by decide +kernel
theorem dX12_agree_1 : decode cX12_agree 1 = .ok (.iload_n 1, 1) := by decide +kernel
theorem dX12_agree_2 : decode cX12_agree 2 = .ok (.invokevirtual 405, 3) := by decide +kernel
theorem dX12_agree_5 : decode cX12_agree 5 = .ok (.ifCond .ne 9, 3) := by decide +kernel
theorem dX12_agree_8 : decode cX12_agree 8 = .ok (.aload_n 0, 1) := by decide +kernel
theorem dX12_agree_9 : decode cX12_agree 9 = .ok (.iconst (-1), 1) := by decide +kernel
theorem dX12_agree_10 : decode cX12_agree 10 = .ok (.invokevirtual 269, 3) := by decide +kernel
theorem dX12_agree_13 : decode cX12_agree 13 = .ok (.ireturn, 1) := by decide +kernel
theorem dX12_agree_14 : decode cX12_agree 14 = .ok (.iconst 0, 1) := by decide +kernel
theorem dX12_agree_15 : decode cX12_agree 15 = .ok (.istore 5, 2) := by decide +kernel
theorem dX12_agree_17 : decode cX12_agree 17 = .ok (.iconst 0, 1) := by decide +kernel
theorem dX12_agree_18 : decode cX12_agree 18 = .ok (.istore 6, 2) := by decide +kernel
theorem dX12_agree_20 : decode cX12_agree 20 = .ok (.iload 6, 2) := by decide +kernel
theorem dX12_agree_22 : decode cX12_agree 22 = .ok (.aload_n 0, 1) := by decide +kernel
theorem dX12_agree_23 : decode cX12_agree 23 = .ok (.getfield 427, 3) := by decide +kernel
theorem dX12_agree_26 : decode cX12_agree 26 = .ok (.if_icmp .ge 32, 3) := by decide +kernel
theorem dX12_agree_29 : decode cX12_agree 29 = .ok (.iload 5, 2) := by decide +kernel
theorem dX12_agree_31 : decode cX12_agree 31 = .ok (.ifCond .ne 14, 3) := by decide +kernel
theorem dX12_agree_34 : decode cX12_agree 34 = .ok (.aload_n 0, 1) := by decide +kernel
theorem dX12_agree_35 : decode cX12_agree 35 = .ok (.getfield 137, 3) := by decide +kernel
theorem dX12_agree_38 : decode cX12_agree 38 = .ok (.iload 6, 2) := by decide +kernel
theorem dX12_agree_40 : decode cX12_agree 40 = .ok (.iaload, 1) := by decide +kernel
theorem dX12_agree_41 : decode cX12_agree 41 = .ok (.iload_n 1, 1) := by decide +kernel
theorem dX12_agree_42 : decode cX12_agree 42 = .ok (.if_icmp .ne 7, 3) := by decide +kernel
theorem dX12_agree_45 : decode cX12_agree 45 = .ok (.iconst 1, 1) := by decide +kernel
theorem dX12_agree_46 : decode cX12_agree 46 = .ok (.goto 4, 3) := by decide +kernel
theorem dX12_agree_49 : decode cX12_agree 49 = .ok (.iconst 0, 1) := by decide +kernel
theorem dX12_agree_50 : decode cX12_agree 50 = .ok (.istore 5, 2) := by decide +kernel
theorem dX12_agree_52 : decode cX12_agree 52 = .ok (.iinc 6 1, 3) := by decide +kernel
theorem dX12_agree_55 : decode cX12_agree 55 = .ok (.goto (-35), 3) := by decide +kernel
theorem dX12_agree_58 : decode cX12_agree 58 = .ok (.aload_n 0, 1) := by decide +kernel
theorem dX12_agree_59 : decode cX12_agree 59 = .ok (.getfield 80, 3) := by decide +kernel
theorem dX12_agree_62 : decode cX12_agree 62 = .ok (.iload_n 1, 1) := by decide +kernel
theorem dX12_agree_63 : decode cX12_agree 63 = .ok (.iaload, 1) := by decide +kernel
theorem dX12_agree_64 : decode cX12_agree 64 = .ok (.iconst 3, 1) := by decide +kernel
theorem dX12_agree_65 : decode cX12_agree 65 = .ok (.if_icmp .ne 20, 3) := by decide +kernel
theorem dX12_agree_68 : decode cX12_agree 68 = .ok (.aload_n 0, 1) := by decide +kernel
theorem dX12_agree_69 : decode cX12_agree 69 = .ok (.iload_n 1, 1) := by decide +kernel
theorem dX12_agree_70 : decode cX12_agree 70 = .ok (.aload_n 0, 1) := by decide +kernel
theorem dX12_agree_71 : decode cX12_agree 71 = .ok (.getfield 273, 3) := by decide +kernel
theorem dX12_agree_74 : decode cX12_agree 74 = .ok (.invokevirtual 430, 3) := by decide +kernel
theorem dX12_agree_77 : decode cX12_agree 77 = .ok (.ifCond .eq 8, 3) := by decide +kernel
theorem dX12_agree_80 : decode cX12_agree 80 = .ok (.iload 5, 2) := by decide +kernel
theorem dX12_agree_82 : decode cX12_agree 82 = .ok (.ifCond .eq 10, 3) := by decide +kernel
theorem dX12_agree_85 : decode cX12_agree 85 = .ok (.aload_n 0, 1) := by decide +kernel
theorem dX12_agree_86 : decode cX12_agree 86 = .ok (.bipush (-3), 2) := by decide +kernel
theorem dX12_agree_88 : decode cX12_agree 88 = .ok (.invokevirtual 269, 3) := by decide +kernel
theorem dX12_agree_91 : decode cX12_agree 91 = .ok (.ireturn, 1) := by decide +kernel
theorem dX12_agree_92 : decode cX12_agree 92 = .ok (.iload_n 2, 1) := by decide +kernel
theorem dX12_agree_93 : decode cX12_agree 93 = .ok (.ifCond .lt 23, 3) := by decide +kernel
theorem dX12_agree_96 : decode cX12_agree 96 = .ok (.iload_n 3, 1) := by decide +kernel
theorem dX12_agree_97 : decode cX12_agree 97 = .ok (.aload_n 0, 1) := by decide +kernel
theorem dX12_agree_98 : decode cX12_agree 98 = .ok (.getfield 273, 3) := by decide +kernel
theorem dX12_agree_101 : decode cX12_agree 101 = .ok (.if_icmp .lt 15, 3) := by decide +kernel
theorem dX12_agree_104 : decode cX12_agree 104 = .ok (.iload 4, 2) := by decide +kernel
theorem dX12_agree_106 : decode cX12_agree 106 = .ok (.iconst (-1), 1) := by decide +kernel
theorem dX12_agree_107 : decode cX12_agree 107 = .ok (.if_icmp .eq 16, 3) := by decide +kernel
theorem dX12_agree_110 : decode cX12_agree 110 = .ok (.iload 4, 2) := by decide +kernel
theorem dX12_agree_112 : decode cX12_agree 112 = .ok (.iload_n 3, 1) := by decide +kernel
theorem dX12_agree_113 : decode cX12_agree 113 = .ok (.if_icmp .ge 10, 3) := by decide +kernel
theorem dX12_agree_116 : decode cX12_agree 116 = .ok (.aload_n 0, 1) := by decide +kernel
theorem dX12_agree_117 : decode cX12_agree 117 = .ok (.bipush (-4), 2) := by decide +kernel
theorem dX12_agree_119 : decode cX12_agree 119 = .ok (.invokevirtual 269, 3) := by decide +kernel
theorem dX12_agree_122 : decode cX12_agree 122 = .ok (.ireturn, 1) := by decide +kernel
theorem dX12_agree_123 : decode cX12_agree 123 = .ok (.iload_n 2, 1) := by decide +kernel
theorem dX12_agree_124 : decode cX12_agree 124 = .ok (.sipush 9999, 3) := by decide +kernel
theorem dX12_agree_127 : decode cX12_agree 127 = .ok (.if_icmp .gt 27, 3) := by decide +kernel
theorem dX12_agree_130 : decode cX12_agree 130 = .ok (.iload_n 3, 1) := by decide +kernel
theorem dX12_agree_131 : decode cX12_agree 131 = .ok (.sipush 1000, 3) := by decide +kernel
theorem dX12_agree_134 : decode cX12_agree 134 = .ok (.if_icmp .gt 20, 3) := by decide +kernel
theorem dX12_agree_137 : decode cX12_agree 137 = .ok (.iload 4, 2) := by decide +kernel
theorem dX12_agree_139 : decode cX12_agree 139 = .ok (.sipush 1000, 3) := by decide +kernel
theorem dX12_agree_142 : decode cX12_agree 142 = .ok (.if_icmp .gt 12, 3) := by decide +kernel
theorem dX12_agree_145 : decode cX12_agree 145 = .ok (.aload_n 0, 1) := by decide +kernel
theorem dX12_agree_146 : decode cX12_agree 146 = .ok (.getfield 427, 3) := by decide +kernel
theorem dX12_agree_149 : decode cX12_agree 149 = .ok (.bipush 30, 2) := by decide +kernel
theorem dX12_agree_151 : decode cX12_agree 151 = .ok (.if_icmp .ne 10, 3) := by decide +kernel
theorem dX12_agree_154 : decode cX12_agree 154 = .ok (.aload_n 0, 1) := by decide +kernel
theorem dX12_agree_155 : decode cX12_agree 155 = .ok (.bipush (-6), 2) := by decide +kernel
theorem dX12_agree_157 : decode cX12_agree 157 = .ok (.invokevirtual 269, 3) := by decide +kernel
theorem dX12_agree_160 : decode cX12_agree 160 = .ok (.ireturn, 1) := by decide +kernel
theorem dX12_agree_161 : decode cX12_agree 161 = .ok (.aload_n 0, 1) := by decide +kernel
theorem dX12_agree_162 : decode cX12_agree 162 = .ok (.getfield 137, 3) := by decide +kernel
theorem dX12_agree_165 : decode cX12_agree 165 = .ok (.aload_n 0, 1) := by decide +kernel
theorem dX12_agree_166 : decode cX12_agree 166 = .ok (.getfield 427, 3) := by decide +kernel
theorem dX12_agree_169 : decode cX12_agree 169 = .ok (.iload_n 1, 1) := by decide +kernel
theorem dX12_agree_170 : decode cX12_agree 170 = .ok (.iastore, 1) := by decide +kernel
theorem dX12_agree_171 : decode cX12_agree 171 = .ok (.aload_n 0, 1) := by decide +kernel
theorem dX12_agree_172 : decode cX12_agree 172 = .ok (.getfield 140, 3) := by decide +kernel
theorem dX12_agree_175 : decode cX12_agree 175 = .ok (.aload_n 0, 1) := by decide +kernel
theorem dX12_agree_176 : decode cX12_agree 176 = .ok (.getfield 427, 3) := by decide +kernel
theorem dX12_agree_179 : decode cX12_agree 179 = .ok (.iload_n 2, 1) := by decide +kernel
theorem dX12_agree_180 : decode cX12_agree 180 = .ok (.iastore, 1) := by decide +kernel
theorem dX12_agree_181 : decode cX12_agree 181 = .ok (.aload_n 0, 1) := by decide +kernel
theorem dX12_agree_182 : decode cX12_agree 182 = .ok (.getfield 143, 3) := by decide +kernel
theorem dX12_agree_185 : decode cX12_agree 185 = .ok (.aload_n 0, 1) := by decide +kernel
theorem dX12_agree_186 : decode cX12_agree 186 = .ok (.getfield 427, 3) := by decide +kernel
theorem dX12_agree_189 : decode cX12_agree 189 = .ok (.iload_n 3, 1) := by decide +kernel
theorem dX12_agree_190 : decode cX12_agree 190 = .ok (.iastore, 1) := by decide +kernel
theorem dX12_agree_191 : decode cX12_agree 191 = .ok (.aload_n 0, 1) := by decide +kernel
theorem dX12_agree_192 : decode cX12_agree 192 = .ok (.getfield 146, 3) := by decide +kernel
theorem dX12_agree_195 : decode cX12_agree 195 = .ok (.aload_n 0, 1) := by decide +kernel
theorem dX12_agree_196 : decode cX12_agree 196 = .ok (.getfield 427, 3) := by decide +kernel
theorem dX12_agree_199 : decode cX12_agree 199 = .ok (.iload 4, 2) := by decide +kernel
theorem dX12_agree_201 : decode cX12_agree 201 = .ok (.iconst (-1), 1) := by decide +kernel
theorem dX12_agree_202 : decode cX12_agree 202 = .ok (.if_icmp .ne 9, 3) := by decide +kernel
theorem dX12_agree_205 : decode cX12_agree 205 = .ok (.ldc_w 353, 3) := by decide +kernel
theorem dX12_agree_208 : decode cX12_agree 208 = .ok (.goto 5, 3) := by decide +kernel
theorem dX12_agree_211 : decode cX12_agree 211 = .ok (.iload 4, 2) := by decide +kernel
theorem dX12_agree_213 : decode cX12_agree 213 = .ok (.iastore, 1) := by decide +kernel
theorem dX12_agree_214 : decode cX12_agree 214 = .ok (.aload_n 0, 1) := by decide +kernel
theorem dX12_agree_215 : decode cX12_agree 215 = .ok (.getfield 149, 3) := by decide +kernel
theorem dX12_agree_218 : decode cX12_agree 218 = .ok (.aload_n 0, 1) := by decide +kernel
theorem dX12_agree_219 : decode cX12_agree 219 = .ok (.getfield 427, 3) := by decide +kernel
theorem dX12_agree_222 : decode cX12_agree 222 = .ok (.aload_n 0, 1) := by decide +kernel
theorem dX12_agree_223 : decode cX12_agree 223 = .ok (.getfield 273, 3) := by decide +kernel
theorem dX12_agree_226 : decode cX12_agree 226 = .ok (.iastore, 1) := by decide +kernel
theorem dX12_agree_227 : decode cX12_agree 227 = .ok (.aload_n 0, 1) := by decide +kernel
theorem dX12_agree_228 : decode cX12_agree 228 = .ok (.dup, 1) := by decide +kernel
theorem dX12_agree_229 : decode cX12_agree 229 = .ok (.getfield 427, 3) := by decide +kernel
theorem dX12_agree_232 : decode cX12_agree 232 = .ok (.iconst 1, 1) := by decide +kernel
theorem dX12_agree_233 : decode cX12_agree 233 = .ok (.iadd, 1) := by decide +kernel
theorem dX12_agree_234 : decode cX12_agree 234 = .ok (.putfield 427, 3) := by decide +kernel
theorem dX12_agree_237 : decode cX12_agree 237 = .ok (.aload_n 0, 1) := by decide +kernel
theorem dX12_agree_238 : decode cX12_agree 238 = .ok (.getfield 427, 3) := by decide +kernel
theorem dX12_agree_241 : decode cX12_agree 241 = .ok (.iconst 1, 1) := by decide +kernel
theorem dX12_agree_242 : decode cX12_agree 242 = .ok (.isub, 1) := by decide +kernel
theorem dX12_agree_243 : decode cX12_agree 243 = .ok (.ireturn, 1) := by decide +kernel
theorem dX12_holdsNow_0 : decode cX12_holdsNow 0 = .ok (.aload_n 0, 1) := by decide +kernel
theorem dX12_holdsNow_1 : decode cX12_holdsNow 1 = .ok (.aload_n 0, 1) := by decide +kernel
theorem dX12_holdsNow_2 : decode cX12_holdsNow 2 = .ok (.getfield 137, 3) := by decide +kernel
theorem dX12_holdsNow_5 : decode cX12_holdsNow 5 = .ok (.iload_n 1, 1) := by decide +kernel
theorem dX12_holdsNow_6 : decode cX12_holdsNow 6 = .ok (.iaload, 1) := by decide +kernel
theorem dX12_holdsNow_7 : decode cX12_holdsNow 7 = .ok (.aload_n 0, 1) := by decide +kernel
theorem dX12_holdsNow_8 : decode cX12_holdsNow 8 = .ok (.getfield 149, 3) := by decide +kernel
theorem dX12_holdsNow_11 : decode cX12_holdsNow 11 = .ok (.iload_n 1, 1) := by decide +kernel
theorem dX12_holdsNow_12 : decode cX12_holdsNow 12 = .ok (.iaload, 1) := by decide +kernel
theorem dX12_holdsNow_13 : decode cX12_holdsNow 13 = .ok (.invokevirtual 430, 3) := by decide +kernel
theorem dX12_holdsNow_16 : decode cX12_holdsNow 16 = .ok (.ireturn, 1) := by decide +kernel
theorem dX12_isAgreement_0 : decode cX12_isAgreement 0 = .ok (.iload_n 1, 1) := by decide +kernel
theorem dX12_isAgreement_1 : decode cX12_isAgreement 1 = .ok (.iconst 0, 1) := by decide +kernel
theorem dX12_isAgreement_2 : decode cX12_isAgreement 2 = .ok (.aload_n 0, 1) := by decide +kernel
theorem dX12_isAgreement_3 : decode cX12_isAgreement 3 = .ok (.getfield 427, 3) := by decide +kernel
theorem dX12_isAgreement_6 : decode cX12_isAgreement 6 = .ok (.iconst 1, 1) := by decide +kernel
theorem dX12_isAgreement_7 : decode cX12_isAgreement 7 = .ok (.isub, 1) := by decide +kernel
theorem dX12_isAgreement_8 : decode cX12_isAgreement 8 = .ok (.invokestatic 262, 3) := by decide +kernel
theorem dX12_isAgreement_11 : decode cX12_isAgreement 11 = .ok (.ireturn, 1) := by decide +kernel
theorem dX12_cancel_0 : decode cX12_cancel 0 = .ok (.aload_n 0, 1) := by decide +kernel
theorem dX12_cancel_1 : decode cX12_cancel 1 = .ok (.iload_n 1, 1) := by decide +kernel
theorem dX12_cancel_2 : decode cX12_cancel 2 = .ok (.invokevirtual 433, 3) := by decide +kernel
theorem dX12_cancel_5 : decode cX12_cancel 5 = .ok (.ifCond .ne 9, 3) := by decide +kernel
theorem dX12_cancel_8 : decode cX12_cancel 8 = .ok (.aload_n 0, 1) := by decide +kernel
theorem dX12_cancel_9 : decode cX12_cancel 9 = .ok (.iconst (-1), 1) := by decide +kernel
theorem dX12_cancel_10 : decode cX12_cancel 10 = .ok (.invokevirtual 269, 3) := by decide +kernel
theorem dX12_cancel_13 : decode cX12_cancel 13 = .ok (.ireturn, 1) := by decide +kernel
theorem dX12_cancel_14 : decode cX12_cancel 14 = .ok (.aload_n 0, 1) := by decide +kernel
theorem dX12_cancel_15 : decode cX12_cancel 15 = .ok (.getfield 152, 3) := by decide +kernel
theorem dX12_cancel_18 : decode cX12_cancel 18 = .ok (.iload_n 1, 1) := by decide +kernel
theorem dX12_cancel_19 : decode cX12_cancel 19 = .ok (.baload, 1) := by decide +kernel
theorem dX12_cancel_20 : decode cX12_cancel 20 = .ok (.ifCond .eq 10, 3) := by decide +kernel
theorem dX12_cancel_23 : decode cX12_cancel 23 = .ok (.aload_n 0, 1) := by decide +kernel
theorem dX12_cancel_24 : decode cX12_cancel 24 = .ok (.bipush (-3), 2) := by decide +kernel
theorem dX12_cancel_26 : decode cX12_cancel 26 = .ok (.invokevirtual 269, 3) := by decide +kernel
theorem dX12_cancel_29 : decode cX12_cancel 29 = .ok (.ireturn, 1) := by decide +kernel
theorem dX12_cancel_30 : decode cX12_cancel 30 = .ok (.aload_n 0, 1) := by decide +kernel
theorem dX12_cancel_31 : decode cX12_cancel 31 = .ok (.getfield 152, 3) := by decide +kernel
theorem dX12_cancel_34 : decode cX12_cancel 34 = .ok (.iload_n 1, 1) := by decide +kernel
theorem dX12_cancel_35 : decode cX12_cancel 35 = .ok (.iconst 1, 1) := by decide +kernel
theorem dX12_cancel_36 : decode cX12_cancel 36 = .ok (.bastore, 1) := by decide +kernel
theorem dX12_cancel_37 : decode cX12_cancel 37 = .ok (.aload_n 0, 1) := by decide +kernel
theorem dX12_cancel_38 : decode cX12_cancel 38 = .ok (.getfield 146, 3) := by decide +kernel
theorem dX12_cancel_41 : decode cX12_cancel 41 = .ok (.iload_n 1, 1) := by decide +kernel
theorem dX12_cancel_42 : decode cX12_cancel 42 = .ok (.aload_n 0, 1) := by decide +kernel
theorem dX12_cancel_43 : decode cX12_cancel 43 = .ok (.getfield 146, 3) := by decide +kernel
theorem dX12_cancel_46 : decode cX12_cancel 46 = .ok (.iload_n 1, 1) := by decide +kernel
theorem dX12_cancel_47 : decode cX12_cancel 47 = .ok (.iaload, 1) := by decide +kernel
theorem dX12_cancel_48 : decode cX12_cancel 48 = .ok (.aload_n 0, 1) := by decide +kernel
theorem dX12_cancel_49 : decode cX12_cancel 49 = .ok (.getfield 273, 3) := by decide +kernel
theorem dX12_cancel_52 : decode cX12_cancel 52 = .ok (.aload_n 0, 1) := by decide +kernel
theorem dX12_cancel_53 : decode cX12_cancel 53 = .ok (.getfield 122, 3) := by decide +kernel
theorem dX12_cancel_56 : decode cX12_cancel 56 = .ok (.iconst 1, 1) := by decide +kernel
theorem dX12_cancel_57 : decode cX12_cancel 57 = .ok (.iaload, 1) := by decide +kernel
theorem dX12_cancel_58 : decode cX12_cancel 58 = .ok (.iadd, 1) := by decide +kernel
theorem dX12_cancel_59 : decode cX12_cancel 59 = .ok (.if_icmp .ge 12, 3) := by decide +kernel
theorem dX12_cancel_62 : decode cX12_cancel 62 = .ok (.aload_n 0, 1) := by decide +kernel
theorem dX12_cancel_63 : decode cX12_cancel 63 = .ok (.getfield 146, 3) := by decide +kernel
theorem dX12_cancel_66 : decode cX12_cancel 66 = .ok (.iload_n 1, 1) := by decide +kernel
theorem dX12_cancel_67 : decode cX12_cancel 67 = .ok (.iaload, 1) := by decide +kernel
theorem dX12_cancel_68 : decode cX12_cancel 68 = .ok (.goto 14, 3) := by decide +kernel
theorem dX12_cancel_71 : decode cX12_cancel 71 = .ok (.aload_n 0, 1) := by decide +kernel
theorem dX12_cancel_72 : decode cX12_cancel 72 = .ok (.getfield 273, 3) := by decide +kernel
theorem dX12_cancel_75 : decode cX12_cancel 75 = .ok (.aload_n 0, 1) := by decide +kernel
theorem dX12_cancel_76 : decode cX12_cancel 76 = .ok (.getfield 122, 3) := by decide +kernel
theorem dX12_cancel_79 : decode cX12_cancel 79 = .ok (.iconst 1, 1) := by decide +kernel
theorem dX12_cancel_80 : decode cX12_cancel 80 = .ok (.iaload, 1) := by decide +kernel
theorem dX12_cancel_81 : decode cX12_cancel 81 = .ok (.iadd, 1) := by decide +kernel
theorem dX12_cancel_82 : decode cX12_cancel 82 = .ok (.iastore, 1) := by decide +kernel
theorem dX12_cancel_83 : decode cX12_cancel 83 = .ok (.aload_n 0, 1) := by decide +kernel
theorem dX12_cancel_84 : decode cX12_cancel 84 = .ok (.getfield 146, 3) := by decide +kernel
theorem dX12_cancel_87 : decode cX12_cancel 87 = .ok (.iload_n 1, 1) := by decide +kernel
theorem dX12_cancel_88 : decode cX12_cancel 88 = .ok (.iaload, 1) := by decide +kernel
theorem dX12_cancel_89 : decode cX12_cancel 89 = .ok (.ireturn, 1) := by decide +kernel
theorem dX12_agreementOf_0 : decode cX12_agreementOf 0 = .ok (.aload_n 0, 1) := by decide +kernel
theorem dX12_agreementOf_1 : decode cX12_agreementOf 1 = .ok (.iload_n 1, 1) := by decide +kernel
theorem dX12_agreementOf_2 : decode cX12_agreementOf 2 = .ok (.invokevirtual 433, 3) := by decide +kernel
theorem dX12_agreementOf_5 : decode cX12_agreementOf 5 = .ok (.ifCond .ne 9, 3) := by decide +kernel
theorem dX12_agreementOf_8 : decode cX12_agreementOf 8 = .ok (.aload_n 0, 1) := by decide +kernel
theorem dX12_agreementOf_9 : decode cX12_agreementOf 9 = .ok (.iconst (-1), 1) := by decide +kernel
theorem dX12_agreementOf_10 : decode cX12_agreementOf 10 = .ok (.invokevirtual 269, 3) := by decide +kernel
theorem dX12_agreementOf_13 : decode cX12_agreementOf 13 = .ok (.ireturn, 1) := by decide +kernel
theorem dX12_agreementOf_14 : decode cX12_agreementOf 14 = .ok (.iload_n 2, 1) := by decide +kernel
theorem dX12_agreementOf_15 : decode cX12_agreementOf 15 = .ok (.iconst 0, 1) := by decide +kernel
theorem dX12_agreementOf_16 : decode cX12_agreementOf 16 = .ok (.iconst 4, 1) := by decide +kernel
theorem dX12_agreementOf_17 : decode cX12_agreementOf 17 = .ok (.invokestatic 262, 3) := by decide +kernel
theorem dX12_agreementOf_20 : decode cX12_agreementOf 20 = .ok (.ifCond .ne 10, 3) := by decide +kernel
theorem dX12_agreementOf_23 : decode cX12_agreementOf 23 = .ok (.aload_n 0, 1) := by decide +kernel
theorem dX12_agreementOf_24 : decode cX12_agreementOf 24 = .ok (.bipush (-2), 2) := by decide +kernel
theorem dX12_agreementOf_26 : decode cX12_agreementOf 26 = .ok (.invokevirtual 269, 3) := by decide +kernel
theorem dX12_agreementOf_29 : decode cX12_agreementOf 29 = .ok (.ireturn, 1) := by decide +kernel
theorem dX12_agreementOf_30 : decode cX12_agreementOf 30 = .ok (.iload_n 2, 1) := by decide +kernel
theorem dX12_agreementOf_31 : decode cX12_agreementOf 31 = .ok (.ifCond .ne 12, 3) := by decide +kernel
theorem dX12_agreementOf_34 : decode cX12_agreementOf 34 = .ok (.aload_n 0, 1) := by decide +kernel
theorem dX12_agreementOf_35 : decode cX12_agreementOf 35 = .ok (.getfield 137, 3) := by decide +kernel
theorem dX12_agreementOf_38 : decode cX12_agreementOf 38 = .ok (.iload_n 1, 1) := by decide +kernel
theorem dX12_agreementOf_39 : decode cX12_agreementOf 39 = .ok (.iaload, 1) := by decide +kernel
theorem dX12_agreementOf_40 : decode cX12_agreementOf 40 = .ok (.goto 58, 3) := by decide +kernel
theorem dX12_agreementOf_43 : decode cX12_agreementOf 43 = .ok (.iload_n 2, 1) := by decide +kernel
theorem dX12_agreementOf_44 : decode cX12_agreementOf 44 = .ok (.iconst 1, 1) := by decide +kernel
theorem dX12_agreementOf_45 : decode cX12_agreementOf 45 = .ok (.if_icmp .ne 12, 3) := by decide +kernel
theorem dX12_agreementOf_48 : decode cX12_agreementOf 48 = .ok (.aload_n 0, 1) := by decide +kernel
theorem dX12_agreementOf_49 : decode cX12_agreementOf 49 = .ok (.getfield 140, 3) := by decide +kernel
theorem dX12_agreementOf_52 : decode cX12_agreementOf 52 = .ok (.iload_n 1, 1) := by decide +kernel
theorem dX12_agreementOf_53 : decode cX12_agreementOf 53 = .ok (.iaload, 1) := by decide +kernel
theorem dX12_agreementOf_54 : decode cX12_agreementOf 54 = .ok (.goto 44, 3) := by decide +kernel
theorem dX12_agreementOf_57 : decode cX12_agreementOf 57 = .ok (.iload_n 2, 1) := by decide +kernel
theorem dX12_agreementOf_58 : decode cX12_agreementOf 58 = .ok (.iconst 2, 1) := by decide +kernel
theorem dX12_agreementOf_59 : decode cX12_agreementOf 59 = .ok (.if_icmp .ne 12, 3) := by decide +kernel
theorem dX12_agreementOf_62 : decode cX12_agreementOf 62 = .ok (.aload_n 0, 1) := by decide +kernel
theorem dX12_agreementOf_63 : decode cX12_agreementOf 63 = .ok (.getfield 143, 3) := by decide +kernel
theorem dX12_agreementOf_66 : decode cX12_agreementOf 66 = .ok (.iload_n 1, 1) := by decide +kernel
theorem dX12_agreementOf_67 : decode cX12_agreementOf 67 = .ok (.iaload, 1) := by decide +kernel
theorem dX12_agreementOf_68 : decode cX12_agreementOf 68 = .ok (.goto 30, 3) := by decide +kernel
theorem dX12_agreementOf_71 : decode cX12_agreementOf 71 = .ok (.iload_n 2, 1) := by decide +kernel
theorem dX12_agreementOf_72 : decode cX12_agreementOf 72 = .ok (.iconst 3, 1) := by decide +kernel
theorem dX12_agreementOf_73 : decode cX12_agreementOf 73 = .ok (.if_icmp .ne 12, 3) := by decide +kernel
theorem dX12_agreementOf_76 : decode cX12_agreementOf 76 = .ok (.aload_n 0, 1) := by decide +kernel
theorem dX12_agreementOf_77 : decode cX12_agreementOf 77 = .ok (.getfield 146, 3) := by decide +kernel
theorem dX12_agreementOf_80 : decode cX12_agreementOf 80 = .ok (.iload_n 1, 1) := by decide +kernel
theorem dX12_agreementOf_81 : decode cX12_agreementOf 81 = .ok (.iaload, 1) := by decide +kernel
theorem dX12_agreementOf_82 : decode cX12_agreementOf 82 = .ok (.goto 16, 3) := by decide +kernel
theorem dX12_agreementOf_85 : decode cX12_agreementOf 85 = .ok (.aload_n 0, 1) := by decide +kernel
theorem dX12_agreementOf_86 : decode cX12_agreementOf 86 = .ok (.iload_n 1, 1) := by decide +kernel
theorem dX12_agreementOf_87 : decode cX12_agreementOf 87 = .ok (.invokevirtual 436, 3) := by decide +kernel
theorem dX12_agreementOf_90 : decode cX12_agreementOf 90 = .ok (.ifCond .eq 7, 3) := by decide +kernel
theorem dX12_agreementOf_93 : decode cX12_agreementOf 93 = .ok (.iconst 1, 1) := by decide +kernel
theorem dX12_agreementOf_94 : decode cX12_agreementOf 94 = .ok (.goto 4, 3) := by decide +kernel
theorem dX12_agreementOf_97 : decode cX12_agreementOf 97 = .ok (.iconst 0, 1) := by decide +kernel
theorem dX12_agreementOf_98 : decode cX12_agreementOf 98 = .ok (.ireturn, 1) := by decide +kernel
theorem dX12_contract_0 : decode cX12_contract 0 = .ok (.iload_n 1, 1) := by decide +kernel
theorem dX12_contract_1 : decode cX12_contract 1 = .ok (.invokestatic 367, 3) := by decide +kernel
theorem dX12_contract_4 : decode cX12_contract 4 = .ok (.ifCond .eq 12, 3) := by decide +kernel
theorem dX12_contract_7 : decode cX12_contract 7 = .ok (.iload_n 3, 1) := by decide +kernel
theorem dX12_contract_8 : decode cX12_contract 8 = .ok (.iconst 0, 1) := by decide +kernel
theorem dX12_contract_9 : decode cX12_contract 9 = .ok (.iconst 2, 1) := by decide +kernel
theorem dX12_contract_10 : decode cX12_contract 10 = .ok (.invokestatic 262, 3) := by decide +kernel
theorem dX12_contract_13 : decode cX12_contract 13 = .ok (.ifCond .ne 10, 3) := by decide +kernel
theorem dX12_contract_16 : decode cX12_contract 16 = .ok (.aload_n 0, 1) := by decide +kernel
theorem dX12_contract_17 : decode cX12_contract 17 = .ok (.bipush (-2), 2) := by decide +kernel
theorem dX12_contract_19 : decode cX12_contract 19 = .ok (.invokevirtual 439, 3) := by decide +kernel
theorem dX12_contract_22 : decode cX12_contract 22 = .ok (.ireturn, 1) := by decide +kernel
theorem dX12_contract_23 : decode cX12_contract 23 = .ok (.iload_n 2, 1) := by decide +kernel
theorem dX12_contract_24 : decode cX12_contract 24 = .ok (.iconst (-1), 1) := by decide +kernel
theorem dX12_contract_25 : decode cX12_contract 25 = .ok (.if_icmp .ge 10, 3) := by decide +kernel
theorem dX12_contract_28 : decode cX12_contract 28 = .ok (.aload_n 0, 1) := by decide +kernel
theorem dX12_contract_29 : decode cX12_contract 29 = .ok (.bipush (-4), 2) := by decide +kernel
theorem dX12_contract_31 : decode cX12_contract 31 = .ok (.invokevirtual 439, 3) := by decide +kernel
theorem dX12_contract_34 : decode cX12_contract 34 = .ok (.ireturn, 1) := by decide +kernel
theorem dX12_contract_35 : decode cX12_contract 35 = .ok (.iload_n 2, 1) := by decide +kernel
theorem dX12_contract_36 : decode cX12_contract 36 = .ok (.sipush 9999, 3) := by decide +kernel
theorem dX12_contract_39 : decode cX12_contract 39 = .ok (.if_icmp .le 10, 3) := by decide +kernel
theorem dX12_contract_42 : decode cX12_contract 42 = .ok (.aload_n 0, 1) := by decide +kernel
theorem dX12_contract_43 : decode cX12_contract 43 = .ok (.bipush (-6), 2) := by decide +kernel
theorem dX12_contract_45 : decode cX12_contract 45 = .ok (.invokevirtual 439, 3) := by decide +kernel
theorem dX12_contract_48 : decode cX12_contract 48 = .ok (.ireturn, 1) := by decide +kernel
theorem dX12_contract_49 : decode cX12_contract 49 = .ok (.aload_n 0, 1) := by decide +kernel
theorem dX12_contract_50 : decode cX12_contract 50 = .ok (.getfield 155, 3) := by decide +kernel
theorem dX12_contract_53 : decode cX12_contract 53 = .ok (.iload_n 1, 1) := by decide +kernel
theorem dX12_contract_54 : decode cX12_contract 54 = .ok (.iaload, 1) := by decide +kernel
theorem dX12_contract_55 : decode cX12_contract 55 = .ok (.istore 4, 2) := by decide +kernel
theorem dX12_contract_57 : decode cX12_contract 57 = .ok (.aload_n 0, 1) := by decide +kernel
theorem dX12_contract_58 : decode cX12_contract 58 = .ok (.getfield 155, 3) := by decide +kernel
theorem dX12_contract_61 : decode cX12_contract 61 = .ok (.iload_n 1, 1) := by decide +kernel
theorem dX12_contract_62 : decode cX12_contract 62 = .ok (.iload_n 2, 1) := by decide +kernel
theorem dX12_contract_63 : decode cX12_contract 63 = .ok (.iastore, 1) := by decide +kernel
theorem dX12_contract_64 : decode cX12_contract 64 = .ok (.aload_n 0, 1) := by decide +kernel
theorem dX12_contract_65 : decode cX12_contract 65 = .ok (.getfield 158, 3) := by decide +kernel
theorem dX12_contract_68 : decode cX12_contract 68 = .ok (.iload_n 1, 1) := by decide +kernel
theorem dX12_contract_69 : decode cX12_contract 69 = .ok (.iload_n 3, 1) := by decide +kernel
theorem dX12_contract_70 : decode cX12_contract 70 = .ok (.iastore, 1) := by decide +kernel
theorem dX12_contract_71 : decode cX12_contract 71 = .ok (.iload 4, 2) := by decide +kernel
theorem dX12_contract_73 : decode cX12_contract 73 = .ok (.ireturn, 1) := by decide +kernel
theorem dX12_after_0 : decode cX12_after 0 = .ok (.iload_n 1, 1) := by decide +kernel
theorem dX12_after_1 : decode cX12_after 1 = .ok (.invokestatic 367, 3) := by decide +kernel
theorem dX12_after_4 : decode cX12_after 4 = .ok (.ifCond .ne 10, 3) := by decide +kernel
theorem dX12_after_7 : decode cX12_after 7 = .ok (.aload_n 0, 1) := by decide +kernel
theorem dX12_after_8 : decode cX12_after 8 = .ok (.bipush (-2), 2) := by decide +kernel
theorem dX12_after_10 : decode cX12_after 10 = .ok (.invokevirtual 269, 3) := by decide +kernel
theorem dX12_after_13 : decode cX12_after 13 = .ok (.ireturn, 1) := by decide +kernel
theorem dX12_after_14 : decode cX12_after 14 = .ok (.aload_n 0, 1) := by decide +kernel
theorem dX12_after_15 : decode cX12_after 15 = .ok (.getfield 161, 3) := by decide +kernel
theorem dX12_after_18 : decode cX12_after 18 = .ok (.iload_n 1, 1) := by decide +kernel
theorem dX12_after_19 : decode cX12_after 19 = .ok (.baload, 1) := by decide +kernel
theorem dX12_after_20 : decode cX12_after 20 = .ok (.istore_n 3, 1) := by decide +kernel
theorem dX12_after_21 : decode cX12_after 21 = .ok (.aload_n 0, 1) := by decide +kernel
theorem dX12_after_22 : decode cX12_after 22 = .ok (.getfield 161, 3) := by decide +kernel
theorem dX12_after_25 : decode cX12_after 25 = .ok (.iload_n 1, 1) := by decide +kernel
theorem dX12_after_26 : decode cX12_after 26 = .ok (.iload_n 2, 1) := by decide +kernel
theorem dX12_after_27 : decode cX12_after 27 = .ok (.bastore, 1) := by decide +kernel
theorem dX12_after_28 : decode cX12_after 28 = .ok (.iload_n 3, 1) := by decide +kernel
theorem dX12_after_29 : decode cX12_after 29 = .ok (.iload_n 2, 1) := by decide +kernel
theorem dX12_after_30 : decode cX12_after 30 = .ok (.if_icmp .ne 7, 3) := by decide +kernel
theorem dX12_after_33 : decode cX12_after 33 = .ok (.iconst 0, 1) := by decide +kernel
theorem dX12_after_34 : decode cX12_after 34 = .ok (.goto 4, 3) := by decide +kernel
theorem dX12_after_37 : decode cX12_after 37 = .ok (.iconst 1, 1) := by decide +kernel
theorem dX12_after_38 : decode cX12_after 38 = .ok (.ireturn, 1) := by decide +kernel
theorem dX12_agreementFor_0 : decode cX12_agreementFor 0 = .ok (.iconst (-1), 1) := by decide +kernel
theorem dX12_agreementFor_1 : decode cX12_agreementFor 1 = .ok (.istore 4, 2) := by decide +kernel
theorem dX12_agreementFor_3 : decode cX12_agreementFor 3 = .ok (.iconst (-1), 1) := by decide +kernel
theorem dX12_agreementFor_4 : decode cX12_agreementFor 4 = .ok (.istore 5, 2) := by decide +kernel
theorem dX12_agreementFor_6 : decode cX12_agreementFor 6 = .ok (.iconst 0, 1) := by decide +kernel
theorem dX12_agreementFor_7 : decode cX12_agreementFor 7 = .ok (.istore 6, 2) := by decide +kernel
theorem dX12_agreementFor_9 : decode cX12_agreementFor 9 = .ok (.iload 6, 2) := by decide +kernel
theorem dX12_agreementFor_11 : decode cX12_agreementFor 11 = .ok (.aload_n 0, 1) := by decide +kernel
theorem dX12_agreementFor_12 : decode cX12_agreementFor 12 = .ok (.getfield 427, 3) := by decide +kernel
theorem dX12_agreementFor_15 : decode cX12_agreementFor 15 = .ok (.if_icmp .ge 189, 3) := by decide +kernel
theorem dX12_agreementFor_18 : decode cX12_agreementFor 18 = .ok (.aload_n 0, 1) := by decide +kernel
theorem dX12_agreementFor_19 : decode cX12_agreementFor 19 = .ok (.getfield 137, 3) := by decide +kernel
theorem dX12_agreementFor_22 : decode cX12_agreementFor 22 = .ok (.iload 6, 2) := by decide +kernel
theorem dX12_agreementFor_24 : decode cX12_agreementFor 24 = .ok (.iaload, 1) := by decide +kernel
theorem dX12_agreementFor_25 : decode cX12_agreementFor 25 = .ok (.istore 7, 2) := by decide +kernel
theorem dX12_agreementFor_27 : decode cX12_agreementFor 27 = .ok (.aload_n 0, 1) := by decide +kernel
theorem dX12_agreementFor_28 : decode cX12_agreementFor 28 = .ok (.getfield 71, 3) := by decide +kernel
theorem dX12_agreementFor_31 : decode cX12_agreementFor 31 = .ok (.iload 7, 2) := by decide +kernel
theorem dX12_agreementFor_33 : decode cX12_agreementFor 33 = .ok (.iaload, 1) := by decide +kernel
theorem dX12_agreementFor_34 : decode cX12_agreementFor 34 = .ok (.iload_n 2, 1) := by decide +kernel
theorem dX12_agreementFor_35 : decode cX12_agreementFor 35 = .ok (.if_icmp .ne 163, 3) := by decide +kernel
theorem dX12_agreementFor_38 : decode cX12_agreementFor 38 = .ok (.aload_n 0, 1) := by decide +kernel
theorem dX12_agreementFor_39 : decode cX12_agreementFor 39 = .ok (.getfield 74, 3) := by decide +kernel
theorem dX12_agreementFor_42 : decode cX12_agreementFor 42 = .ok (.iload 7, 2) := by decide +kernel
theorem dX12_agreementFor_44 : decode cX12_agreementFor 44 = .ok (.iaload, 1) := by decide +kernel
theorem dX12_agreementFor_45 : decode cX12_agreementFor 45 = .ok (.iload_n 1, 1) := by decide +kernel
theorem dX12_agreementFor_46 : decode cX12_agreementFor 46 = .ok (.ishr, 1) := by decide +kernel
theorem dX12_agreementFor_47 : decode cX12_agreementFor 47 = .ok (.iconst 1, 1) := by decide +kernel
theorem dX12_agreementFor_48 : decode cX12_agreementFor 48 = .ok (.iand, 1) := by decide +kernel
theorem dX12_agreementFor_49 : decode cX12_agreementFor 49 = .ok (.iconst 1, 1) := by decide +kernel
theorem dX12_agreementFor_50 : decode cX12_agreementFor 50 = .ok (.if_icmp .ne 148, 3) := by decide +kernel
theorem dX12_agreementFor_53 : decode cX12_agreementFor 53 = .ok (.aload_n 0, 1) := by decide +kernel
theorem dX12_agreementFor_54 : decode cX12_agreementFor 54 = .ok (.iload 6, 2) := by decide +kernel
theorem dX12_agreementFor_56 : decode cX12_agreementFor 56 = .ok (.invokevirtual 436, 3) := by decide +kernel
theorem dX12_agreementFor_59 : decode cX12_agreementFor 59 = .ok (.ifCond .eq 139, 3) := by decide +kernel
theorem dX12_agreementFor_62 : decode cX12_agreementFor 62 = .ok (.aload_n 0, 1) := by decide +kernel
theorem dX12_agreementFor_63 : decode cX12_agreementFor 63 = .ok (.getfield 143, 3) := by decide +kernel
theorem dX12_agreementFor_66 : decode cX12_agreementFor 66 = .ok (.iload 6, 2) := by decide +kernel
theorem dX12_agreementFor_68 : decode cX12_agreementFor 68 = .ok (.iaload, 1) := by decide +kernel
theorem dX12_agreementFor_69 : decode cX12_agreementFor 69 = .ok (.iload_n 3, 1) := by decide +kernel
theorem dX12_agreementFor_70 : decode cX12_agreementFor 70 = .ok (.if_icmp .gt 18, 3) := by decide +kernel
theorem dX12_agreementFor_73 : decode cX12_agreementFor 73 = .ok (.iload_n 3, 1) := by decide +kernel
theorem dX12_agreementFor_74 : decode cX12_agreementFor 74 = .ok (.aload_n 0, 1) := by decide +kernel
theorem dX12_agreementFor_75 : decode cX12_agreementFor 75 = .ok (.getfield 146, 3) := by decide +kernel
theorem dX12_agreementFor_78 : decode cX12_agreementFor 78 = .ok (.iload 6, 2) := by decide +kernel
theorem dX12_agreementFor_80 : decode cX12_agreementFor 80 = .ok (.iaload, 1) := by decide +kernel
theorem dX12_agreementFor_81 : decode cX12_agreementFor 81 = .ok (.if_icmp .gt 7, 3) := by decide +kernel
theorem dX12_agreementFor_84 : decode cX12_agreementFor 84 = .ok (.iconst 1, 1) := by decide +kernel
theorem dX12_agreementFor_85 : decode cX12_agreementFor 85 = .ok (.goto 4, 3) := by decide +kernel
theorem dX12_agreementFor_88 : decode cX12_agreementFor 88 = .ok (.iconst 0, 1) := by decide +kernel
theorem dX12_agreementFor_89 : decode cX12_agreementFor 89 = .ok (.istore 8, 2) := by decide +kernel
theorem dX12_agreementFor_91 : decode cX12_agreementFor 91 = .ok (.iload 8, 2) := by decide +kernel
theorem dX12_agreementFor_93 : decode cX12_agreementFor 93 = .ok (.ifCond .eq 30, 3) := by decide +kernel
theorem dX12_agreementFor_96 : decode cX12_agreementFor 96 = .ok (.iload 4, 2) := by decide +kernel
theorem dX12_agreementFor_98 : decode cX12_agreementFor 98 = .ok (.ifCond .lt 20, 3) := by decide +kernel
theorem dX12_agreementFor_101 : decode cX12_agreementFor 101 = .ok (.aload_n 0, 1) := by decide +kernel
theorem dX12_agreementFor_102 : decode cX12_agreementFor 102 = .ok (.getfield 143, 3) := by decide +kernel
theorem dX12_agreementFor_105 : decode cX12_agreementFor 105 = .ok (.iload 6, 2) := by decide +kernel
theorem dX12_agreementFor_107 : decode cX12_agreementFor 107 = .ok (.iaload, 1) := by decide +kernel
theorem dX12_agreementFor_108 : decode cX12_agreementFor 108 = .ok (.aload_n 0, 1) := by decide +kernel
theorem dX12_agreementFor_109 : decode cX12_agreementFor 109 = .ok (.getfield 143, 3) := by decide +kernel
theorem dX12_agreementFor_112 : decode cX12_agreementFor 112 = .ok (.iload 4, 2) := by decide +kernel
theorem dX12_agreementFor_114 : decode cX12_agreementFor 114 = .ok (.iaload, 1) := by decide +kernel
theorem dX12_agreementFor_115 : decode cX12_agreementFor 115 = .ok (.if_icmp .lt 8, 3) := by decide +kernel
theorem dX12_agreementFor_118 : decode cX12_agreementFor 118 = .ok (.iload 6, 2) := by decide +kernel
theorem dX12_agreementFor_120 : decode cX12_agreementFor 120 = .ok (.goto 5, 3) := by decide +kernel
theorem dX12_agreementFor_123 : decode cX12_agreementFor 123 = .ok (.iload 4, 2) := by decide +kernel
theorem dX12_agreementFor_125 : decode cX12_agreementFor 125 = .ok (.istore 4, 2) := by decide +kernel
theorem dX12_agreementFor_127 : decode cX12_agreementFor 127 = .ok (.aload_n 0, 1) := by decide +kernel
theorem dX12_agreementFor_128 : decode cX12_agreementFor 128 = .ok (.getfield 143, 3) := by decide +kernel
theorem dX12_agreementFor_131 : decode cX12_agreementFor 131 = .ok (.iload 6, 2) := by decide +kernel
theorem dX12_agreementFor_133 : decode cX12_agreementFor 133 = .ok (.iaload, 1) := by decide +kernel
theorem dX12_agreementFor_134 : decode cX12_agreementFor 134 = .ok (.aload_n 0, 1) := by decide +kernel
theorem dX12_agreementFor_135 : decode cX12_agreementFor 135 = .ok (.getfield 146, 3) := by decide +kernel
theorem dX12_agreementFor_138 : decode cX12_agreementFor 138 = .ok (.iload 6, 2) := by decide +kernel
theorem dX12_agreementFor_140 : decode cX12_agreementFor 140 = .ok (.iaload, 1) := by decide +kernel
theorem dX12_agreementFor_141 : decode cX12_agreementFor 141 = .ok (.if_icmp .gt 18, 3) := by decide +kernel
theorem dX12_agreementFor_144 : decode cX12_agreementFor 144 = .ok (.aload_n 0, 1) := by decide +kernel
theorem dX12_agreementFor_145 : decode cX12_agreementFor 145 = .ok (.getfield 146, 3) := by decide +kernel
theorem dX12_agreementFor_148 : decode cX12_agreementFor 148 = .ok (.iload 6, 2) := by decide +kernel
theorem dX12_agreementFor_150 : decode cX12_agreementFor 150 = .ok (.iaload, 1) := by decide +kernel
theorem dX12_agreementFor_151 : decode cX12_agreementFor 151 = .ok (.iload_n 3, 1) := by decide +kernel
theorem dX12_agreementFor_152 : decode cX12_agreementFor 152 = .ok (.if_icmp .ge 7, 3) := by decide +kernel
theorem dX12_agreementFor_155 : decode cX12_agreementFor 155 = .ok (.iconst 1, 1) := by decide +kernel
theorem dX12_agreementFor_156 : decode cX12_agreementFor 156 = .ok (.goto 4, 3) := by decide +kernel
theorem dX12_agreementFor_159 : decode cX12_agreementFor 159 = .ok (.iconst 0, 1) := by decide +kernel
theorem dX12_agreementFor_160 : decode cX12_agreementFor 160 = .ok (.istore 9, 2) := by decide +kernel
theorem dX12_agreementFor_162 : decode cX12_agreementFor 162 = .ok (.iload 9, 2) := by decide +kernel
theorem dX12_agreementFor_164 : decode cX12_agreementFor 164 = .ok (.ifCond .eq 30, 3) := by decide +kernel
theorem dX12_agreementFor_167 : decode cX12_agreementFor 167 = .ok (.iload 5, 2) := by decide +kernel
theorem dX12_agreementFor_169 : decode cX12_agreementFor 169 = .ok (.ifCond .lt 20, 3) := by decide +kernel
theorem dX12_agreementFor_172 : decode cX12_agreementFor 172 = .ok (.aload_n 0, 1) := by decide +kernel
theorem dX12_agreementFor_173 : decode cX12_agreementFor 173 = .ok (.getfield 146, 3) := by decide +kernel
theorem dX12_agreementFor_176 : decode cX12_agreementFor 176 = .ok (.iload 6, 2) := by decide +kernel
theorem dX12_agreementFor_178 : decode cX12_agreementFor 178 = .ok (.iaload, 1) := by decide +kernel
theorem dX12_agreementFor_179 : decode cX12_agreementFor 179 = .ok (.aload_n 0, 1) := by decide +kernel
theorem dX12_agreementFor_180 : decode cX12_agreementFor 180 = .ok (.getfield 146, 3) := by decide +kernel
theorem dX12_agreementFor_183 : decode cX12_agreementFor 183 = .ok (.iload 5, 2) := by decide +kernel
theorem dX12_agreementFor_185 : decode cX12_agreementFor 185 = .ok (.iaload, 1) := by decide +kernel
theorem dX12_agreementFor_186 : decode cX12_agreementFor 186 = .ok (.if_icmp .lt 8, 3) := by decide +kernel
theorem dX12_agreementFor_189 : decode cX12_agreementFor 189 = .ok (.iload 6, 2) := by decide +kernel
theorem dX12_agreementFor_191 : decode cX12_agreementFor 191 = .ok (.goto 5, 3) := by decide +kernel
theorem dX12_agreementFor_194 : decode cX12_agreementFor 194 = .ok (.iload 5, 2) := by decide +kernel
theorem dX12_agreementFor_196 : decode cX12_agreementFor 196 = .ok (.istore 5, 2) := by decide +kernel
theorem dX12_agreementFor_198 : decode cX12_agreementFor 198 = .ok (.iinc 6 1, 3) := by decide +kernel
theorem dX12_agreementFor_201 : decode cX12_agreementFor 201 = .ok (.goto (-192), 3) := by decide +kernel
theorem dX12_agreementFor_204 : decode cX12_agreementFor 204 = .ok (.iload 4, 2) := by decide +kernel
theorem dX12_agreementFor_206 : decode cX12_agreementFor 206 = .ok (.ifCond .lt 8, 3) := by decide +kernel
theorem dX12_agreementFor_209 : decode cX12_agreementFor 209 = .ok (.iload 4, 2) := by decide +kernel
theorem dX12_agreementFor_211 : decode cX12_agreementFor 211 = .ok (.goto 18, 3) := by decide +kernel
theorem dX12_agreementFor_214 : decode cX12_agreementFor 214 = .ok (.aload_n 0, 1) := by decide +kernel
theorem dX12_agreementFor_215 : decode cX12_agreementFor 215 = .ok (.getfield 161, 3) := by decide +kernel
theorem dX12_agreementFor_218 : decode cX12_agreementFor 218 = .ok (.iload_n 2, 1) := by decide +kernel
theorem dX12_agreementFor_219 : decode cX12_agreementFor 219 = .ok (.baload, 1) := by decide +kernel
theorem dX12_agreementFor_220 : decode cX12_agreementFor 220 = .ok (.ifCond .eq 8, 3) := by decide +kernel
theorem dX12_agreementFor_223 : decode cX12_agreementFor 223 = .ok (.iload 5, 2) := by decide +kernel
theorem dX12_agreementFor_225 : decode cX12_agreementFor 225 = .ok (.goto 4, 3) := by decide +kernel
theorem dX12_agreementFor_228 : decode cX12_agreementFor 228 = .ok (.iconst (-1), 1) := by decide +kernel
theorem dX12_agreementFor_229 : decode cX12_agreementFor 229 = .ok (.ireturn, 1) := by decide +kernel
theorem dX12_worth_0 : decode cX12_worth 0 = .ok (.iload_n 1, 1) := by decide +kernel
theorem dX12_worth_1 : decode cX12_worth 1 = .ok (.invokestatic 280, 3) := by decide +kernel
theorem dX12_worth_4 : decode cX12_worth 4 = .ok (.ifCond .ne 9, 3) := by decide +kernel
theorem dX12_worth_7 : decode cX12_worth 7 = .ok (.aload_n 0, 1) := by decide +kernel
theorem dX12_worth_8 : decode cX12_worth 8 = .ok (.iconst (-1), 1) := by decide +kernel
theorem dX12_worth_9 : decode cX12_worth 9 = .ok (.invokevirtual 269, 3) := by decide +kernel
theorem dX12_worth_12 : decode cX12_worth 12 = .ok (.ireturn, 1) := by decide +kernel
theorem dX12_worth_13 : decode cX12_worth 13 = .ok (.iload_n 2, 1) := by decide +kernel
theorem dX12_worth_14 : decode cX12_worth 14 = .ok (.invokestatic 367, 3) := by decide +kernel
theorem dX12_worth_17 : decode cX12_worth 17 = .ok (.ifCond .eq 13, 3) := by decide +kernel
theorem dX12_worth_20 : decode cX12_worth 20 = .ok (.iload 4, 2) := by decide +kernel
theorem dX12_worth_22 : decode cX12_worth 22 = .ok (.iconst 0, 1) := by decide +kernel
theorem dX12_worth_23 : decode cX12_worth 23 = .ok (.iconst 1, 1) := by decide +kernel
theorem dX12_worth_24 : decode cX12_worth 24 = .ok (.invokestatic 262, 3) := by decide +kernel
theorem dX12_worth_27 : decode cX12_worth 27 = .ok (.ifCond .ne 10, 3) := by decide +kernel
theorem dX12_worth_30 : decode cX12_worth 30 = .ok (.aload_n 0, 1) := by decide +kernel
theorem dX12_worth_31 : decode cX12_worth 31 = .ok (.bipush (-2), 2) := by decide +kernel
theorem dX12_worth_33 : decode cX12_worth 33 = .ok (.invokevirtual 269, 3) := by decide +kernel
theorem dX12_worth_36 : decode cX12_worth 36 = .ok (.ireturn, 1) := by decide +kernel
theorem dX12_worth_37 : decode cX12_worth 37 = .ok (.iload_n 3, 1) := by decide +kernel
theorem dX12_worth_38 : decode cX12_worth 38 = .ok (.ifCond .ge 10, 3) := by decide +kernel
theorem dX12_worth_41 : decode cX12_worth 41 = .ok (.aload_n 0, 1) := by decide +kernel
theorem dX12_worth_42 : decode cX12_worth 42 = .ok (.bipush (-4), 2) := by decide +kernel
theorem dX12_worth_44 : decode cX12_worth 44 = .ok (.invokevirtual 269, 3) := by decide +kernel
theorem dX12_worth_47 : decode cX12_worth 47 = .ok (.ireturn, 1) := by decide +kernel
theorem dX12_worth_48 : decode cX12_worth 48 = .ok (.iload_n 3, 1) := by decide +kernel
theorem dX12_worth_49 : decode cX12_worth 49 = .ok (.sipush 1000, 3) := by decide +kernel
theorem dX12_worth_52 : decode cX12_worth 52 = .ok (.if_icmp .le 10, 3) := by decide +kernel
theorem dX12_worth_55 : decode cX12_worth 55 = .ok (.aload_n 0, 1) := by decide +kernel
theorem dX12_worth_56 : decode cX12_worth 56 = .ok (.bipush (-6), 2) := by decide +kernel
theorem dX12_worth_58 : decode cX12_worth 58 = .ok (.invokevirtual 269, 3) := by decide +kernel
theorem dX12_worth_61 : decode cX12_worth 61 = .ok (.ireturn, 1) := by decide +kernel
theorem dX12_worth_62 : decode cX12_worth 62 = .ok (.aload_n 0, 1) := by decide +kernel
theorem dX12_worth_63 : decode cX12_worth 63 = .ok (.iload_n 1, 1) := by decide +kernel
theorem dX12_worth_64 : decode cX12_worth 64 = .ok (.iload_n 2, 1) := by decide +kernel
theorem dX12_worth_65 : decode cX12_worth 65 = .ok (.iload_n 3, 1) := by decide +kernel
theorem dX12_worth_66 : decode cX12_worth 66 = .ok (.invokevirtual 442, 3) := by decide +kernel
theorem dX12_worth_69 : decode cX12_worth 69 = .ok (.istore 5, 2) := by decide +kernel
theorem dX12_worth_71 : decode cX12_worth 71 = .ok (.iload 4, 2) := by decide +kernel
theorem dX12_worth_73 : decode cX12_worth 73 = .ok (.iconst 1, 1) := by decide +kernel
theorem dX12_worth_74 : decode cX12_worth 74 = .ok (.if_icmp .ne 16, 3) := by decide +kernel
theorem dX12_worth_77 : decode cX12_worth 77 = .ok (.iload 5, 2) := by decide +kernel
theorem dX12_worth_79 : decode cX12_worth 79 = .ok (.ifCond .ge 8, 3) := by decide +kernel
theorem dX12_worth_82 : decode cX12_worth 82 = .ok (.bipush (-9), 2) := by decide +kernel
theorem dX12_worth_84 : decode cX12_worth 84 = .ok (.goto 5, 3) := by decide +kernel
theorem dX12_worth_87 : decode cX12_worth 87 = .ok (.iload 5, 2) := by decide +kernel
theorem dX12_worth_89 : decode cX12_worth 89 = .ok (.ireturn, 1) := by decide +kernel
theorem dX12_worth_90 : decode cX12_worth 90 = .ok (.aload_n 0, 1) := by decide +kernel
theorem dX12_worth_91 : decode cX12_worth 91 = .ok (.getfield 155, 3) := by decide +kernel
theorem dX12_worth_94 : decode cX12_worth 94 = .ok (.iload_n 2, 1) := by decide +kernel
theorem dX12_worth_95 : decode cX12_worth 95 = .ok (.iaload, 1) := by decide +kernel
theorem dX12_worth_96 : decode cX12_worth 96 = .ok (.istore 6, 2) := by decide +kernel
theorem dX12_worth_98 : decode cX12_worth 98 = .ok (.iload 6, 2) := by decide +kernel
theorem dX12_worth_100 : decode cX12_worth 100 = .ok (.ifCond .ge 21, 3) := by decide +kernel
theorem dX12_worth_103 : decode cX12_worth 103 = .ok (.iload 5, 2) := by decide +kernel
theorem dX12_worth_105 : decode cX12_worth 105 = .ok (.ifCond .ge 8, 3) := by decide +kernel
theorem dX12_worth_108 : decode cX12_worth 108 = .ok (.bipush (-9), 2) := by decide +kernel
theorem dX12_worth_110 : decode cX12_worth 110 = .ok (.goto 10, 3) := by decide +kernel
theorem dX12_worth_113 : decode cX12_worth 113 = .ok (.aload_n 0, 1) := by decide +kernel
theorem dX12_worth_114 : decode cX12_worth 114 = .ok (.getfield 140, 3) := by decide +kernel
theorem dX12_worth_117 : decode cX12_worth 117 = .ok (.iload 5, 2) := by decide +kernel
theorem dX12_worth_119 : decode cX12_worth 119 = .ok (.iaload, 1) := by decide +kernel
theorem dX12_worth_120 : decode cX12_worth 120 = .ok (.ireturn, 1) := by decide +kernel
theorem dX12_worth_121 : decode cX12_worth 121 = .ok (.iload 5, 2) := by decide +kernel
theorem dX12_worth_123 : decode cX12_worth 123 = .ok (.ifCond .lt 12, 3) := by decide +kernel
theorem dX12_worth_126 : decode cX12_worth 126 = .ok (.aload_n 0, 1) := by decide +kernel
theorem dX12_worth_127 : decode cX12_worth 127 = .ok (.getfield 158, 3) := by decide +kernel
theorem dX12_worth_130 : decode cX12_worth 130 = .ok (.iload_n 2, 1) := by decide +kernel
theorem dX12_worth_131 : decode cX12_worth 131 = .ok (.iaload, 1) := by decide +kernel
theorem dX12_worth_132 : decode cX12_worth 132 = .ok (.ifCond .ne 6, 3) := by decide +kernel
theorem dX12_worth_135 : decode cX12_worth 135 = .ok (.iload 6, 2) := by decide +kernel
theorem dX12_worth_137 : decode cX12_worth 137 = .ok (.ireturn, 1) := by decide +kernel
theorem dX12_worth_138 : decode cX12_worth 138 = .ok (.aload_n 0, 1) := by decide +kernel
theorem dX12_worth_139 : decode cX12_worth 139 = .ok (.getfield 158, 3) := by decide +kernel
theorem dX12_worth_142 : decode cX12_worth 142 = .ok (.iload_n 2, 1) := by decide +kernel
theorem dX12_worth_143 : decode cX12_worth 143 = .ok (.iaload, 1) := by decide +kernel
theorem dX12_worth_144 : decode cX12_worth 144 = .ok (.iconst 2, 1) := by decide +kernel
theorem dX12_worth_145 : decode cX12_worth 145 = .ok (.if_icmp .eq 15, 3) := by decide +kernel
theorem dX12_worth_148 : decode cX12_worth 148 = .ok (.aload_n 0, 1) := by decide +kernel
theorem dX12_worth_149 : decode cX12_worth 149 = .ok (.getfield 140, 3) := by decide +kernel
theorem dX12_worth_152 : decode cX12_worth 152 = .ok (.iload 5, 2) := by decide +kernel
theorem dX12_worth_154 : decode cX12_worth 154 = .ok (.iaload, 1) := by decide +kernel
theorem dX12_worth_155 : decode cX12_worth 155 = .ok (.iload 6, 2) := by decide +kernel
theorem dX12_worth_157 : decode cX12_worth 157 = .ok (.if_icmp .le 13, 3) := by decide +kernel
theorem dX12_worth_160 : decode cX12_worth 160 = .ok (.aload_n 0, 1) := by decide +kernel
theorem dX12_worth_161 : decode cX12_worth 161 = .ok (.getfield 140, 3) := by decide +kernel
theorem dX12_worth_164 : decode cX12_worth 164 = .ok (.iload 5, 2) := by decide +kernel
theorem dX12_worth_166 : decode cX12_worth 166 = .ok (.iaload, 1) := by decide +kernel
theorem dX12_worth_167 : decode cX12_worth 167 = .ok (.goto 5, 3) := by decide +kernel
theorem dX12_worth_170 : decode cX12_worth 170 = .ok (.iload 6, 2) := by decide +kernel
theorem dX12_worth_172 : decode cX12_worth 172 = .ok (.ireturn, 1) := by decide +kernel
theorem dX12_board_0 : decode cX12_board 0 = .ok (.aload_n 0, 1) := by decide +kernel
theorem dX12_board_1 : decode cX12_board 1 = .ok (.iload_n 1, 1) := by decide +kernel
theorem dX12_board_2 : decode cX12_board 2 = .ok (.invokevirtual 405, 3) := by decide +kernel
theorem dX12_board_5 : decode cX12_board 5 = .ok (.ifCond .ne 9, 3) := by decide +kernel
theorem dX12_board_8 : decode cX12_board 8 = .ok (.aload_n 0, 1) := by decide +kernel
theorem dX12_board_9 : decode cX12_board 9 = .ok (.iconst (-1), 1) := by decide +kernel
theorem dX12_board_10 : decode cX12_board 10 = .ok (.invokevirtual 269, 3) := by decide +kernel
theorem dX12_board_13 : decode cX12_board 13 = .ok (.ireturn, 1) := by decide +kernel
theorem dX12_board_14 : decode cX12_board 14 = .ok (.aload_n 0, 1) := by decide +kernel
theorem dX12_board_15 : decode cX12_board 15 = .ok (.iload_n 1, 1) := by decide +kernel
theorem dX12_board_16 : decode cX12_board 16 = .ok (.aload_n 0, 1) := by decide +kernel
theorem dX12_board_17 : decode cX12_board 17 = .ok (.getfield 273, 3) := by decide +kernel
theorem dX12_board_20 : decode cX12_board 20 = .ok (.aload_n 0, 1) := by decide +kernel
theorem dX12_board_21 : decode cX12_board 21 = .ok (.getfield 273, 3) := by decide +kernel
theorem dX12_board_24 : decode cX12_board 24 = .ok (.invokevirtual 402, 3) := by decide +kernel
theorem dX12_board_27 : decode cX12_board 27 = .ok (.istore 5, 2) := by decide +kernel
theorem dX12_board_29 : decode cX12_board 29 = .ok (.aload_n 0, 1) := by decide +kernel
theorem dX12_board_30 : decode cX12_board 30 = .ok (.getfield 80, 3) := by decide +kernel
theorem dX12_board_33 : decode cX12_board 33 = .ok (.iload_n 1, 1) := by decide +kernel
theorem dX12_board_34 : decode cX12_board 34 = .ok (.iaload, 1) := by decide +kernel
theorem dX12_board_35 : decode cX12_board 35 = .ok (.iconst 3, 1) := by decide +kernel
theorem dX12_board_36 : decode cX12_board 36 = .ok (.if_icmp .lt 16, 3) := by decide +kernel
theorem dX12_board_39 : decode cX12_board 39 = .ok (.iload 5, 2) := by decide +kernel
theorem dX12_board_41 : decode cX12_board 41 = .ok (.iconst 5, 1) := by decide +kernel
theorem dX12_board_42 : decode cX12_board 42 = .ok (.if_icmp .eq 17, 3) := by decide +kernel
theorem dX12_board_45 : decode cX12_board 45 = .ok (.iload 5, 2) := by decide +kernel
theorem dX12_board_47 : decode cX12_board 47 = .ok (.bipush 7, 2) := by decide +kernel
theorem dX12_board_49 : decode cX12_board 49 = .ok (.if_icmp .eq 10, 3) := by decide +kernel
theorem dX12_board_52 : decode cX12_board 52 = .ok (.aload_n 0, 1) := by decide +kernel
theorem dX12_board_53 : decode cX12_board 53 = .ok (.bipush (-3), 2) := by decide +kernel
theorem dX12_board_55 : decode cX12_board 55 = .ok (.invokevirtual 269, 3) := by decide +kernel
theorem dX12_board_58 : decode cX12_board 58 = .ok (.ireturn, 1) := by decide +kernel
theorem dX12_board_59 : decode cX12_board 59 = .ok (.iload_n 2, 1) := by decide +kernel
theorem dX12_board_60 : decode cX12_board 60 = .ok (.ifCond .lt 7, 3) := by decide +kernel
theorem dX12_board_63 : decode cX12_board 63 = .ok (.iload_n 3, 1) := by decide +kernel
theorem dX12_board_64 : decode cX12_board 64 = .ok (.ifCond .ge 10, 3) := by decide +kernel
theorem dX12_board_67 : decode cX12_board 67 = .ok (.aload_n 0, 1) := by decide +kernel
theorem dX12_board_68 : decode cX12_board 68 = .ok (.bipush (-4), 2) := by decide +kernel
theorem dX12_board_70 : decode cX12_board 70 = .ok (.invokevirtual 269, 3) := by decide +kernel
theorem dX12_board_73 : decode cX12_board 73 = .ok (.ireturn, 1) := by decide +kernel
theorem dX12_board_74 : decode cX12_board 74 = .ok (.iload_n 2, 1) := by decide +kernel
theorem dX12_board_75 : decode cX12_board 75 = .ok (.iconst 2, 1) := by decide +kernel
theorem dX12_board_76 : decode cX12_board 76 = .ok (.if_icmp .gt 19, 3) := by decide +kernel
theorem dX12_board_79 : decode cX12_board 79 = .ok (.iload_n 3, 1) := by decide +kernel
theorem dX12_board_80 : decode cX12_board 80 = .ok (.iconst 2, 1) := by decide +kernel
theorem dX12_board_81 : decode cX12_board 81 = .ok (.if_icmp .gt 14, 3) := by decide +kernel
theorem dX12_board_84 : decode cX12_board 84 = .ok (.aload_n 0, 1) := by decide +kernel
theorem dX12_board_85 : decode cX12_board 85 = .ok (.getfield 98, 3) := by decide +kernel
theorem dX12_board_88 : decode cX12_board 88 = .ok (.iload_n 1, 1) := by decide +kernel
theorem dX12_board_89 : decode cX12_board 89 = .ok (.iaload, 1) := by decide +kernel
theorem dX12_board_90 : decode cX12_board 90 = .ok (.bipush 30, 2) := by decide +kernel
theorem dX12_board_92 : decode cX12_board 92 = .ok (.if_icmp .ne 10, 3) := by decide +kernel
theorem dX12_board_95 : decode cX12_board 95 = .ok (.aload_n 0, 1) := by decide +kernel
theorem dX12_board_96 : decode cX12_board 96 = .ok (.bipush (-6), 2) := by decide +kernel
theorem dX12_board_98 : decode cX12_board 98 = .ok (.invokevirtual 269, 3) := by decide +kernel
theorem dX12_board_101 : decode cX12_board 101 = .ok (.ireturn, 1) := by decide +kernel
theorem dX12_board_102 : decode cX12_board 102 = .ok (.iload_n 2, 1) := by decide +kernel
theorem dX12_board_103 : decode cX12_board 103 = .ok (.iload_n 3, 1) := by decide +kernel
theorem dX12_board_104 : decode cX12_board 104 = .ok (.iadd, 1) := by decide +kernel
theorem dX12_board_105 : decode cX12_board 105 = .ok (.iload 4, 2) := by decide +kernel
theorem dX12_board_107 : decode cX12_board 107 = .ok (.ifCond .eq 7, 3) := by decide +kernel
theorem dX12_board_110 : decode cX12_board 110 = .ok (.iconst 1, 1) := by decide +kernel
theorem dX12_board_111 : decode cX12_board 111 = .ok (.goto 4, 3) := by decide +kernel
theorem dX12_board_114 : decode cX12_board 114 = .ok (.iconst 0, 1) := by decide +kernel
theorem dX12_board_115 : decode cX12_board 115 = .ok (.iadd, 1) := by decide +kernel
theorem dX12_board_116 : decode cX12_board 116 = .ok (.iconst 3, 1) := by decide +kernel
theorem dX12_board_117 : decode cX12_board 117 = .ok (.if_icmp .lt 7, 3) := by decide +kernel
theorem dX12_board_120 : decode cX12_board 120 = .ok (.iconst 1, 1) := by decide +kernel
theorem dX12_board_121 : decode cX12_board 121 = .ok (.goto 4, 3) := by decide +kernel
theorem dX12_board_124 : decode cX12_board 124 = .ok (.iconst 0, 1) := by decide +kernel
theorem dX12_board_125 : decode cX12_board 125 = .ok (.istore 6, 2) := by decide +kernel
theorem dX12_board_127 : decode cX12_board 127 = .ok (.aload_n 0, 1) := by decide +kernel
theorem dX12_board_128 : decode cX12_board 128 = .ok (.iload_n 1, 1) := by decide +kernel
theorem dX12_board_129 : decode cX12_board 129 = .ok (.iconst 4, 1) := by decide +kernel
theorem dX12_board_130 : decode cX12_board 130 = .ok (.iload 6, 2) := by decide +kernel
theorem dX12_board_132 : decode cX12_board 132 = .ok (.iconst 0, 1) := by decide +kernel
theorem dX12_board_133 : decode cX12_board 133 = .ok (.invokevirtual 408, 3) := by decide +kernel
theorem dX12_board_136 : decode cX12_board 136 = .ok (.iload 6, 2) := by decide +kernel
theorem dX12_board_138 : decode cX12_board 138 = .ok (.ireturn, 1) := by decide +kernel
theorem dX12_court_0 : decode cX12_court 0 = .ok (.aload_n 0, 1) := by decide +kernel
theorem dX12_court_1 : decode cX12_court 1 = .ok (.iload_n 1, 1) := by decide +kernel
theorem dX12_court_2 : decode cX12_court 2 = .ok (.invokevirtual 405, 3) := by decide +kernel
theorem dX12_court_5 : decode cX12_court 5 = .ok (.ifCond .ne 9, 3) := by decide +kernel
theorem dX12_court_8 : decode cX12_court 8 = .ok (.aload_n 0, 1) := by decide +kernel
theorem dX12_court_9 : decode cX12_court 9 = .ok (.iconst (-1), 1) := by decide +kernel
theorem dX12_court_10 : decode cX12_court 10 = .ok (.invokevirtual 269, 3) := by decide +kernel
theorem dX12_court_13 : decode cX12_court 13 = .ok (.ireturn, 1) := by decide +kernel
theorem dX12_court_14 : decode cX12_court 14 = .ok (.aload_n 0, 1) := by decide +kernel
theorem dX12_court_15 : decode cX12_court 15 = .ok (.iload_n 1, 1) := by decide +kernel
theorem dX12_court_16 : decode cX12_court 16 = .ok (.aload_n 0, 1) := by decide +kernel
theorem dX12_court_17 : decode cX12_court 17 = .ok (.getfield 273, 3) := by decide +kernel
theorem dX12_court_20 : decode cX12_court 20 = .ok (.aload_n 0, 1) := by decide +kernel
theorem dX12_court_21 : decode cX12_court 21 = .ok (.getfield 273, 3) := by decide +kernel
theorem dX12_court_24 : decode cX12_court 24 = .ok (.invokevirtual 392, 3) := by decide +kernel
theorem dX12_court_27 : decode cX12_court 27 = .ok (.ifCond .ge 10, 3) := by decide +kernel
theorem dX12_court_30 : decode cX12_court 30 = .ok (.aload_n 0, 1) := by decide +kernel
theorem dX12_court_31 : decode cX12_court 31 = .ok (.bipush (-3), 2) := by decide +kernel
theorem dX12_court_33 : decode cX12_court 33 = .ok (.invokevirtual 269, 3) := by decide +kernel
theorem dX12_court_36 : decode cX12_court 36 = .ok (.ireturn, 1) := by decide +kernel
theorem dX12_court_37 : decode cX12_court 37 = .ok (.aload_n 0, 1) := by decide +kernel
theorem dX12_court_38 : decode cX12_court 38 = .ok (.getfield 98, 3) := by decide +kernel
theorem dX12_court_41 : decode cX12_court 41 = .ok (.iload_n 1, 1) := by decide +kernel
theorem dX12_court_42 : decode cX12_court 42 = .ok (.iaload, 1) := by decide +kernel
theorem dX12_court_43 : decode cX12_court 43 = .ok (.bipush 30, 2) := by decide +kernel
theorem dX12_court_45 : decode cX12_court 45 = .ok (.if_icmp .ne 10, 3) := by decide +kernel
theorem dX12_court_48 : decode cX12_court 48 = .ok (.aload_n 0, 1) := by decide +kernel
theorem dX12_court_49 : decode cX12_court 49 = .ok (.bipush (-6), 2) := by decide +kernel
theorem dX12_court_51 : decode cX12_court 51 = .ok (.invokevirtual 269, 3) := by decide +kernel
theorem dX12_court_54 : decode cX12_court 54 = .ok (.ireturn, 1) := by decide +kernel
theorem dX12_court_55 : decode cX12_court 55 = .ok (.aload_n 0, 1) := by decide +kernel
theorem dX12_court_56 : decode cX12_court 56 = .ok (.iload_n 1, 1) := by decide +kernel
theorem dX12_court_57 : decode cX12_court 57 = .ok (.iconst 5, 1) := by decide +kernel
theorem dX12_court_58 : decode cX12_court 58 = .ok (.iconst (-1), 1) := by decide +kernel
theorem dX12_court_59 : decode cX12_court 59 = .ok (.iconst 0, 1) := by decide +kernel
theorem dX12_court_60 : decode cX12_court 60 = .ok (.invokevirtual 408, 3) := by decide +kernel
theorem dX12_court_63 : decode cX12_court 63 = .ok (.iconst 1, 1) := by decide +kernel
theorem dX12_court_64 : decode cX12_court 64 = .ok (.ireturn, 1) := by decide +kernel
theorem dX12_deed_0 : decode cX12_deed 0 = .ok (.iload_n 1, 1) := by decide +kernel
theorem dX12_deed_1 : decode cX12_deed 1 = .ok (.iconst (-1), 1) := by decide +kernel
theorem dX12_deed_2 : decode cX12_deed 2 = .ok (.if_icmp .eq 17, 3) := by decide +kernel
theorem dX12_deed_5 : decode cX12_deed 5 = .ok (.aload_n 0, 1) := by decide +kernel
theorem dX12_deed_6 : decode cX12_deed 6 = .ok (.iload_n 1, 1) := by decide +kernel
theorem dX12_deed_7 : decode cX12_deed 7 = .ok (.invokevirtual 405, 3) := by decide +kernel
theorem dX12_deed_10 : decode cX12_deed 10 = .ok (.ifCond .ne 9, 3) := by decide +kernel
theorem dX12_deed_13 : decode cX12_deed 13 = .ok (.aload_n 0, 1) := by decide +kernel
theorem dX12_deed_14 : decode cX12_deed 14 = .ok (.iconst (-1), 1) := by decide +kernel
theorem dX12_deed_15 : decode cX12_deed 15 = .ok (.invokevirtual 269, 3) := by decide +kernel
theorem dX12_deed_18 : decode cX12_deed 18 = .ok (.ireturn, 1) := by decide +kernel
theorem dX12_deed_19 : decode cX12_deed 19 = .ok (.iload_n 2, 1) := by decide +kernel
theorem dX12_deed_20 : decode cX12_deed 20 = .ok (.invokestatic 367, 3) := by decide +kernel
theorem dX12_deed_23 : decode cX12_deed 23 = .ok (.ifCond .ne 10, 3) := by decide +kernel
theorem dX12_deed_26 : decode cX12_deed 26 = .ok (.aload_n 0, 1) := by decide +kernel
theorem dX12_deed_27 : decode cX12_deed 27 = .ok (.bipush (-2), 2) := by decide +kernel
theorem dX12_deed_29 : decode cX12_deed 29 = .ok (.invokevirtual 269, 3) := by decide +kernel
theorem dX12_deed_32 : decode cX12_deed 32 = .ok (.ireturn, 1) := by decide +kernel
theorem dX12_deed_33 : decode cX12_deed 33 = .ok (.iload_n 1, 1) := by decide +kernel
theorem dX12_deed_34 : decode cX12_deed 34 = .ok (.ifCond .lt 20, 3) := by decide +kernel
theorem dX12_deed_37 : decode cX12_deed 37 = .ok (.aload_n 0, 1) := by decide +kernel
theorem dX12_deed_38 : decode cX12_deed 38 = .ok (.getfield 71, 3) := by decide +kernel
theorem dX12_deed_41 : decode cX12_deed 41 = .ok (.iload_n 1, 1) := by decide +kernel
theorem dX12_deed_42 : decode cX12_deed 42 = .ok (.iaload, 1) := by decide +kernel
theorem dX12_deed_43 : decode cX12_deed 43 = .ok (.iload_n 2, 1) := by decide +kernel
theorem dX12_deed_44 : decode cX12_deed 44 = .ok (.if_icmp .eq 10, 3) := by decide +kernel
theorem dX12_deed_47 : decode cX12_deed 47 = .ok (.aload_n 0, 1) := by decide +kernel
theorem dX12_deed_48 : decode cX12_deed 48 = .ok (.bipush (-3), 2) := by decide +kernel
theorem dX12_deed_50 : decode cX12_deed 50 = .ok (.invokevirtual 269, 3) := by decide +kernel
theorem dX12_deed_53 : decode cX12_deed 53 = .ok (.ireturn, 1) := by decide +kernel
theorem dX12_deed_54 : decode cX12_deed 54 = .ok (.iload_n 3, 1) := by decide +kernel
theorem dX12_deed_55 : decode cX12_deed 55 = .ok (.iload 4, 2) := by decide +kernel
theorem dX12_deed_57 : decode cX12_deed 57 = .ok (.invokestatic 370, 3) := by decide +kernel
theorem dX12_deed_60 : decode cX12_deed 60 = .ok (.ifCond .ge 14, 3) := by decide +kernel
theorem dX12_deed_63 : decode cX12_deed 63 = .ok (.aload_n 0, 1) := by decide +kernel
theorem dX12_deed_64 : decode cX12_deed 64 = .ok (.iload_n 3, 1) := by decide +kernel
theorem dX12_deed_65 : decode cX12_deed 65 = .ok (.iload 4, 2) := by decide +kernel
theorem dX12_deed_67 : decode cX12_deed 67 = .ok (.invokestatic 370, 3) := by decide +kernel
theorem dX12_deed_70 : decode cX12_deed 70 = .ok (.invokevirtual 269, 3) := by decide +kernel
theorem dX12_deed_73 : decode cX12_deed 73 = .ok (.ireturn, 1) := by decide +kernel
theorem dX12_deed_74 : decode cX12_deed 74 = .ok (.aload_n 0, 1) := by decide +kernel
theorem dX12_deed_75 : decode cX12_deed 75 = .ok (.getfield 445, 3) := by decide +kernel
theorem dX12_deed_78 : decode cX12_deed 78 = .ok (.bipush 60, 2) := by decide +kernel
theorem dX12_deed_80 : decode cX12_deed 80 = .ok (.if_icmp .ne 10, 3) := by decide +kernel
theorem dX12_deed_83 : decode cX12_deed 83 = .ok (.aload_n 0, 1) := by decide +kernel
theorem dX12_deed_84 : decode cX12_deed 84 = .ok (.bipush (-6), 2) := by decide +kernel
theorem dX12_deed_86 : decode cX12_deed 86 = .ok (.invokevirtual 269, 3) := by decide +kernel
theorem dX12_deed_89 : decode cX12_deed 89 = .ok (.ireturn, 1) := by decide +kernel
theorem dX12_deed_90 : decode cX12_deed 90 = .ok (.aload_n 0, 1) := by decide +kernel
theorem dX12_deed_91 : decode cX12_deed 91 = .ok (.iload_n 2, 1) := by decide +kernel
theorem dX12_deed_92 : decode cX12_deed 92 = .ok (.iload_n 3, 1) := by decide +kernel
theorem dX12_deed_93 : decode cX12_deed 93 = .ok (.iload 4, 2) := by decide +kernel
theorem dX12_deed_95 : decode cX12_deed 95 = .ok (.iconst 0, 1) := by decide +kernel
theorem dX12_deed_96 : decode cX12_deed 96 = .ok (.invokevirtual 373, 3) := by decide +kernel
theorem dX12_deed_99 : decode cX12_deed 99 = .ok (.istore 5, 2) := by decide +kernel
theorem dX12_deed_101 : decode cX12_deed 101 = .ok (.aload_n 0, 1) := by decide +kernel
theorem dX12_deed_102 : decode cX12_deed 102 = .ok (.getfield 164, 3) := by decide +kernel
theorem dX12_deed_105 : decode cX12_deed 105 = .ok (.aload_n 0, 1) := by decide +kernel
theorem dX12_deed_106 : decode cX12_deed 106 = .ok (.getfield 445, 3) := by decide +kernel
theorem dX12_deed_109 : decode cX12_deed 109 = .ok (.iload_n 1, 1) := by decide +kernel
theorem dX12_deed_110 : decode cX12_deed 110 = .ok (.iastore, 1) := by decide +kernel
theorem dX12_deed_111 : decode cX12_deed 111 = .ok (.aload_n 0, 1) := by decide +kernel
theorem dX12_deed_112 : decode cX12_deed 112 = .ok (.getfield 167, 3) := by decide +kernel
theorem dX12_deed_115 : decode cX12_deed 115 = .ok (.aload_n 0, 1) := by decide +kernel
theorem dX12_deed_116 : decode cX12_deed 116 = .ok (.getfield 445, 3) := by decide +kernel
theorem dX12_deed_119 : decode cX12_deed 119 = .ok (.aload_n 0, 1) := by decide +kernel
theorem dX12_deed_120 : decode cX12_deed 120 = .ok (.getfield 273, 3) := by decide +kernel
theorem dX12_deed_123 : decode cX12_deed 123 = .ok (.iastore, 1) := by decide +kernel
theorem dX12_deed_124 : decode cX12_deed 124 = .ok (.aload_n 0, 1) := by decide +kernel
theorem dX12_deed_125 : decode cX12_deed 125 = .ok (.getfield 170, 3) := by decide +kernel
theorem dX12_deed_128 : decode cX12_deed 128 = .ok (.aload_n 0, 1) := by decide +kernel
theorem dX12_deed_129 : decode cX12_deed 129 = .ok (.getfield 445, 3) := by decide +kernel
theorem dX12_deed_132 : decode cX12_deed 132 = .ok (.iload_n 3, 1) := by decide +kernel
theorem dX12_deed_133 : decode cX12_deed 133 = .ok (.iastore, 1) := by decide +kernel
theorem dX12_deed_134 : decode cX12_deed 134 = .ok (.aload_n 0, 1) := by decide +kernel
theorem dX12_deed_135 : decode cX12_deed 135 = .ok (.getfield 173, 3) := by decide +kernel
theorem dX12_deed_138 : decode cX12_deed 138 = .ok (.aload_n 0, 1) := by decide +kernel
theorem dX12_deed_139 : decode cX12_deed 139 = .ok (.getfield 445, 3) := by decide +kernel
theorem dX12_deed_142 : decode cX12_deed 142 = .ok (.iload 4, 2) := by decide +kernel
theorem dX12_deed_144 : decode cX12_deed 144 = .ok (.iastore, 1) := by decide +kernel
theorem dX12_deed_145 : decode cX12_deed 145 = .ok (.aload_n 0, 1) := by decide +kernel
theorem dX12_deed_146 : decode cX12_deed 146 = .ok (.getfield 176, 3) := by decide +kernel
theorem dX12_deed_149 : decode cX12_deed 149 = .ok (.aload_n 0, 1) := by decide +kernel
theorem dX12_deed_150 : decode cX12_deed 150 = .ok (.getfield 445, 3) := by decide +kernel
theorem dX12_deed_153 : decode cX12_deed 153 = .ok (.iload 5, 2) := by decide +kernel
theorem dX12_deed_155 : decode cX12_deed 155 = .ok (.ifCond .ge 7, 3) := by decide +kernel
theorem dX12_deed_158 : decode cX12_deed 158 = .ok (.iconst 0, 1) := by decide +kernel
theorem dX12_deed_159 : decode cX12_deed 159 = .ok (.goto 9, 3) := by decide +kernel
theorem dX12_deed_162 : decode cX12_deed 162 = .ok (.aload_n 0, 1) := by decide +kernel
theorem dX12_deed_163 : decode cX12_deed 163 = .ok (.iload 5, 2) := by decide +kernel
theorem dX12_deed_165 : decode cX12_deed 165 = .ok (.invokevirtual 364, 3) := by decide +kernel
theorem dX12_deed_168 : decode cX12_deed 168 = .ok (.iastore, 1) := by decide +kernel
theorem dX12_deed_169 : decode cX12_deed 169 = .ok (.aload_n 0, 1) := by decide +kernel
theorem dX12_deed_170 : decode cX12_deed 170 = .ok (.dup, 1) := by decide +kernel
theorem dX12_deed_171 : decode cX12_deed 171 = .ok (.getfield 445, 3) := by decide +kernel
theorem dX12_deed_174 : decode cX12_deed 174 = .ok (.iconst 1, 1) := by decide +kernel
theorem dX12_deed_175 : decode cX12_deed 175 = .ok (.iadd, 1) := by decide +kernel
theorem dX12_deed_176 : decode cX12_deed 176 = .ok (.putfield 445, 3) := by decide +kernel
theorem dX12_deed_179 : decode cX12_deed 179 = .ok (.aload_n 0, 1) := by decide +kernel
theorem dX12_deed_180 : decode cX12_deed 180 = .ok (.getfield 445, 3) := by decide +kernel
theorem dX12_deed_183 : decode cX12_deed 183 = .ok (.iconst 1, 1) := by decide +kernel
theorem dX12_deed_184 : decode cX12_deed 184 = .ok (.isub, 1) := by decide +kernel
theorem dX12_deed_185 : decode cX12_deed 185 = .ok (.ireturn, 1) := by decide +kernel
theorem dX12_voidSince_0 : decode cX12_voidSince 0 = .ok (.aload_n 0, 1) := by decide +kernel
theorem dX12_voidSince_1 : decode cX12_voidSince 1 = .ok (.getfield 164, 3) := by decide +kernel
theorem dX12_voidSince_4 : decode cX12_voidSince 4 = .ok (.iload_n 1, 1) := by decide +kernel
theorem dX12_voidSince_5 : decode cX12_voidSince 5 = .ok (.iaload, 1) := by decide +kernel
theorem dX12_voidSince_6 : decode cX12_voidSince 6 = .ok (.istore_n 2, 1) := by decide +kernel
theorem dX12_voidSince_7 : decode cX12_voidSince 7 = .ok (.iload_n 2, 1) := by decide +kernel
theorem dX12_voidSince_8 : decode cX12_voidSince 8 = .ok (.ifCond .ge 24, 3) := by decide +kernel
theorem dX12_voidSince_11 : decode cX12_voidSince 11 = .ok (.aload_n 0, 1) := by decide +kernel
theorem dX12_voidSince_12 : decode cX12_voidSince 12 = .ok (.getfield 176, 3) := by decide +kernel
theorem dX12_voidSince_15 : decode cX12_voidSince 15 = .ok (.iload_n 1, 1) := by decide +kernel
theorem dX12_voidSince_16 : decode cX12_voidSince 16 = .ok (.iaload, 1) := by decide +kernel
theorem dX12_voidSince_17 : decode cX12_voidSince 17 = .ok (.ifCond .le 12, 3) := by decide +kernel
theorem dX12_voidSince_20 : decode cX12_voidSince 20 = .ok (.aload_n 0, 1) := by decide +kernel
theorem dX12_voidSince_21 : decode cX12_voidSince 21 = .ok (.getfield 167, 3) := by decide +kernel
theorem dX12_voidSince_24 : decode cX12_voidSince 24 = .ok (.iload_n 1, 1) := by decide +kernel
theorem dX12_voidSince_25 : decode cX12_voidSince 25 = .ok (.iaload, 1) := by decide +kernel
theorem dX12_voidSince_26 : decode cX12_voidSince 26 = .ok (.goto 5, 3) := by decide +kernel
theorem dX12_voidSince_29 : decode cX12_voidSince 29 = .ok (.bipush (-9), 2) := by decide +kernel
theorem dX12_voidSince_31 : decode cX12_voidSince 31 = .ok (.ireturn, 1) := by decide +kernel
theorem dX12_voidSince_32 : decode cX12_voidSince 32 = .ok (.aload_n 0, 1) := by decide +kernel
theorem dX12_voidSince_33 : decode cX12_voidSince 33 = .ok (.getfield 170, 3) := by decide +kernel
theorem dX12_voidSince_36 : decode cX12_voidSince 36 = .ok (.iload_n 1, 1) := by decide +kernel
theorem dX12_voidSince_37 : decode cX12_voidSince 37 = .ok (.iaload, 1) := by decide +kernel
theorem dX12_voidSince_38 : decode cX12_voidSince 38 = .ok (.aload_n 0, 1) := by decide +kernel
theorem dX12_voidSince_39 : decode cX12_voidSince 39 = .ok (.getfield 74, 3) := by decide +kernel
theorem dX12_voidSince_42 : decode cX12_voidSince 42 = .ok (.iload_n 2, 1) := by decide +kernel
theorem dX12_voidSince_43 : decode cX12_voidSince 43 = .ok (.iaload, 1) := by decide +kernel
theorem dX12_voidSince_44 : decode cX12_voidSince 44 = .ok (.iconst (-1), 1) := by decide +kernel
theorem dX12_voidSince_45 : decode cX12_voidSince 45 = .ok (.ixor, 1) := by decide +kernel
theorem dX12_voidSince_46 : decode cX12_voidSince 46 = .ok (.iand, 1) := by decide +kernel
theorem dX12_voidSince_47 : decode cX12_voidSince 47 = .ok (.ifCond .ne 18, 3) := by decide +kernel
theorem dX12_voidSince_50 : decode cX12_voidSince 50 = .ok (.aload_n 0, 1) := by decide +kernel
theorem dX12_voidSince_51 : decode cX12_voidSince 51 = .ok (.getfield 173, 3) := by decide +kernel
theorem dX12_voidSince_54 : decode cX12_voidSince 54 = .ok (.iload_n 1, 1) := by decide +kernel
theorem dX12_voidSince_55 : decode cX12_voidSince 55 = .ok (.iaload, 1) := by decide +kernel
theorem dX12_voidSince_56 : decode cX12_voidSince 56 = .ok (.aload_n 0, 1) := by decide +kernel
theorem dX12_voidSince_57 : decode cX12_voidSince 57 = .ok (.getfield 77, 3) := by decide +kernel
theorem dX12_voidSince_60 : decode cX12_voidSince 60 = .ok (.iload_n 2, 1) := by decide +kernel
theorem dX12_voidSince_61 : decode cX12_voidSince 61 = .ok (.iaload, 1) := by decide +kernel
theorem dX12_voidSince_62 : decode cX12_voidSince 62 = .ok (.if_icmp .le 10, 3) := by decide +kernel
theorem dX12_voidSince_65 : decode cX12_voidSince 65 = .ok (.aload_n 0, 1) := by decide +kernel
theorem dX12_voidSince_66 : decode cX12_voidSince 66 = .ok (.getfield 167, 3) := by decide +kernel
theorem dX12_voidSince_69 : decode cX12_voidSince 69 = .ok (.iload_n 1, 1) := by decide +kernel
theorem dX12_voidSince_70 : decode cX12_voidSince 70 = .ok (.iaload, 1) := by decide +kernel
theorem dX12_voidSince_71 : decode cX12_voidSince 71 = .ok (.ireturn, 1) := by decide +kernel
theorem dX12_voidSince_72 : decode cX12_voidSince 72 = .ok (.aload_n 0, 1) := by decide +kernel
theorem dX12_voidSince_73 : decode cX12_voidSince 73 = .ok (.getfield 80, 3) := by decide +kernel
theorem dX12_voidSince_76 : decode cX12_voidSince 76 = .ok (.iload_n 2, 1) := by decide +kernel
theorem dX12_voidSince_77 : decode cX12_voidSince 77 = .ok (.iaload, 1) := by decide +kernel
theorem dX12_voidSince_78 : decode cX12_voidSince 78 = .ok (.iconst 4, 1) := by decide +kernel
theorem dX12_voidSince_79 : decode cX12_voidSince 79 = .ok (.if_icmp .ne 10, 3) := by decide +kernel
theorem dX12_voidSince_82 : decode cX12_voidSince 82 = .ok (.aload_n 0, 1) := by decide +kernel
theorem dX12_voidSince_83 : decode cX12_voidSince 83 = .ok (.getfield 273, 3) := by decide +kernel
theorem dX12_voidSince_86 : decode cX12_voidSince 86 = .ok (.goto 9, 3) := by decide +kernel
theorem dX12_voidSince_89 : decode cX12_voidSince 89 = .ok (.aload_n 0, 1) := by decide +kernel
theorem dX12_voidSince_90 : decode cX12_voidSince 90 = .ok (.getfield 167, 3) := by decide +kernel
theorem dX12_voidSince_93 : decode cX12_voidSince 93 = .ok (.iload_n 1, 1) := by decide +kernel
theorem dX12_voidSince_94 : decode cX12_voidSince 94 = .ok (.iaload, 1) := by decide +kernel
theorem dX12_voidSince_95 : decode cX12_voidSince 95 = .ok (.istore_n 3, 1) := by decide +kernel
theorem dX12_voidSince_96 : decode cX12_voidSince 96 = .ok (.aload_n 0, 1) := by decide +kernel
theorem dX12_voidSince_97 : decode cX12_voidSince 97 = .ok (.getfield 167, 3) := by decide +kernel
theorem dX12_voidSince_100 : decode cX12_voidSince 100 = .ok (.iload_n 1, 1) := by decide +kernel
theorem dX12_voidSince_101 : decode cX12_voidSince 101 = .ok (.iaload, 1) := by decide +kernel
theorem dX12_voidSince_102 : decode cX12_voidSince 102 = .ok (.istore 4, 2) := by decide +kernel
theorem dX12_voidSince_104 : decode cX12_voidSince 104 = .ok (.iload 4, 2) := by decide +kernel
theorem dX12_voidSince_106 : decode cX12_voidSince 106 = .ok (.iload_n 3, 1) := by decide +kernel
theorem dX12_voidSince_107 : decode cX12_voidSince 107 = .ok (.if_icmp .gt 22, 3) := by decide +kernel
theorem dX12_voidSince_110 : decode cX12_voidSince 110 = .ok (.aload_n 0, 1) := by decide +kernel
theorem dX12_voidSince_111 : decode cX12_voidSince 111 = .ok (.iload_n 2, 1) := by decide +kernel
theorem dX12_voidSince_112 : decode cX12_voidSince 112 = .ok (.iload 4, 2) := by decide +kernel
theorem dX12_voidSince_114 : decode cX12_voidSince 114 = .ok (.invokevirtual 412, 3) := by decide +kernel
theorem dX12_voidSince_117 : decode cX12_voidSince 117 = .ok (.ifCond .ne 6, 3) := by decide +kernel
theorem dX12_voidSince_120 : decode cX12_voidSince 120 = .ok (.iload 4, 2) := by decide +kernel
theorem dX12_voidSince_122 : decode cX12_voidSince 122 = .ok (.ireturn, 1) := by decide +kernel
theorem dX12_voidSince_123 : decode cX12_voidSince 123 = .ok (.iinc 4 1, 3) := by decide +kernel
theorem dX12_voidSince_126 : decode cX12_voidSince 126 = .ok (.goto (-22), 3) := by decide +kernel
theorem dX12_voidSince_129 : decode cX12_voidSince 129 = .ok (.bipush (-9), 2) := by decide +kernel
theorem dX12_voidSince_131 : decode cX12_voidSince 131 = .ok (.ireturn, 1) := by decide +kernel
theorem dX12_hung_0 : decode cX12_hung 0 = .ok (.iconst 0, 1) := by decide +kernel
theorem dX12_hung_1 : decode cX12_hung 1 = .ok (.istore_n 3, 1) := by decide +kernel
theorem dX12_hung_2 : decode cX12_hung 2 = .ok (.iconst 0, 1) := by decide +kernel
theorem dX12_hung_3 : decode cX12_hung 3 = .ok (.istore 4, 2) := by decide +kernel
theorem dX12_hung_5 : decode cX12_hung 5 = .ok (.iload 4, 2) := by decide +kernel
theorem dX12_hung_7 : decode cX12_hung 7 = .ok (.aload_n 0, 1) := by decide +kernel
theorem dX12_hung_8 : decode cX12_hung 8 = .ok (.getfield 448, 3) := by decide +kernel
theorem dX12_hung_11 : decode cX12_hung 11 = .ok (.if_icmp .ge 45, 3) := by decide +kernel
theorem dX12_hung_14 : decode cX12_hung 14 = .ok (.iload_n 3, 1) := by decide +kernel
theorem dX12_hung_15 : decode cX12_hung 15 = .ok (.aload_n 0, 1) := by decide +kernel
theorem dX12_hung_16 : decode cX12_hung 16 = .ok (.getfield 179, 3) := by decide +kernel
theorem dX12_hung_19 : decode cX12_hung 19 = .ok (.iload 4, 2) := by decide +kernel
theorem dX12_hung_21 : decode cX12_hung 21 = .ok (.iaload, 1) := by decide +kernel
theorem dX12_hung_22 : decode cX12_hung 22 = .ok (.iload_n 1, 1) := by decide +kernel
theorem dX12_hung_23 : decode cX12_hung 23 = .ok (.if_icmp .ne 24, 3) := by decide +kernel
theorem dX12_hung_26 : decode cX12_hung 26 = .ok (.aload_n 0, 1) := by decide +kernel
theorem dX12_hung_27 : decode cX12_hung 27 = .ok (.getfield 182, 3) := by decide +kernel
theorem dX12_hung_30 : decode cX12_hung 30 = .ok (.iload 4, 2) := by decide +kernel
theorem dX12_hung_32 : decode cX12_hung 32 = .ok (.iaload, 1) := by decide +kernel
theorem dX12_hung_33 : decode cX12_hung 33 = .ok (.iload_n 2, 1) := by decide +kernel
theorem dX12_hung_34 : decode cX12_hung 34 = .ok (.if_icmp .lt 13, 3) := by decide +kernel
theorem dX12_hung_37 : decode cX12_hung 37 = .ok (.aload_n 0, 1) := by decide +kernel
theorem dX12_hung_38 : decode cX12_hung 38 = .ok (.getfield 185, 3) := by decide +kernel
theorem dX12_hung_41 : decode cX12_hung 41 = .ok (.iload 4, 2) := by decide +kernel
theorem dX12_hung_43 : decode cX12_hung 43 = .ok (.iaload, 1) := by decide +kernel
theorem dX12_hung_44 : decode cX12_hung 44 = .ok (.goto 4, 3) := by decide +kernel
theorem dX12_hung_47 : decode cX12_hung 47 = .ok (.iconst 0, 1) := by decide +kernel
theorem dX12_hung_48 : decode cX12_hung 48 = .ok (.iadd, 1) := by decide +kernel
theorem dX12_hung_49 : decode cX12_hung 49 = .ok (.istore_n 3, 1) := by decide +kernel
theorem dX12_hung_50 : decode cX12_hung 50 = .ok (.iinc 4 1, 3) := by decide +kernel
theorem dX12_hung_53 : decode cX12_hung 53 = .ok (.goto (-48), 3) := by decide +kernel
theorem dX12_hung_56 : decode cX12_hung 56 = .ok (.iload_n 3, 1) := by decide +kernel
theorem dX12_hung_57 : decode cX12_hung 57 = .ok (.ireturn, 1) := by decide +kernel
theorem dX12_isDeed_0 : decode cX12_isDeed 0 = .ok (.iload_n 1, 1) := by decide +kernel
theorem dX12_isDeed_1 : decode cX12_isDeed 1 = .ok (.iconst 0, 1) := by decide +kernel
theorem dX12_isDeed_2 : decode cX12_isDeed 2 = .ok (.aload_n 0, 1) := by decide +kernel
theorem dX12_isDeed_3 : decode cX12_isDeed 3 = .ok (.getfield 445, 3) := by decide +kernel
theorem dX12_isDeed_6 : decode cX12_isDeed 6 = .ok (.iconst 1, 1) := by decide +kernel
theorem dX12_isDeed_7 : decode cX12_isDeed 7 = .ok (.isub, 1) := by decide +kernel
theorem dX12_isDeed_8 : decode cX12_isDeed 8 = .ok (.invokestatic 262, 3) := by decide +kernel
theorem dX12_isDeed_11 : decode cX12_isDeed 11 = .ok (.ireturn, 1) := by decide +kernel
theorem dX12_deedOf_0 : decode cX12_deedOf 0 = .ok (.aload_n 0, 1) := by decide +kernel
theorem dX12_deedOf_1 : decode cX12_deedOf 1 = .ok (.iload_n 1, 1) := by decide +kernel
theorem dX12_deedOf_2 : decode cX12_deedOf 2 = .ok (.invokevirtual 451, 3) := by decide +kernel
theorem dX12_deedOf_5 : decode cX12_deedOf 5 = .ok (.ifCond .ne 9, 3) := by decide +kernel
theorem dX12_deedOf_8 : decode cX12_deedOf 8 = .ok (.aload_n 0, 1) := by decide +kernel
theorem dX12_deedOf_9 : decode cX12_deedOf 9 = .ok (.iconst (-1), 1) := by decide +kernel
theorem dX12_deedOf_10 : decode cX12_deedOf 10 = .ok (.invokevirtual 439, 3) := by decide +kernel
theorem dX12_deedOf_13 : decode cX12_deedOf 13 = .ok (.ireturn, 1) := by decide +kernel
theorem dX12_deedOf_14 : decode cX12_deedOf 14 = .ok (.iload_n 2, 1) := by decide +kernel
theorem dX12_deedOf_15 : decode cX12_deedOf 15 = .ok (.iconst 0, 1) := by decide +kernel
theorem dX12_deedOf_16 : decode cX12_deedOf 16 = .ok (.iconst 4, 1) := by decide +kernel
theorem dX12_deedOf_17 : decode cX12_deedOf 17 = .ok (.invokestatic 262, 3) := by decide +kernel
theorem dX12_deedOf_20 : decode cX12_deedOf 20 = .ok (.ifCond .ne 10, 3) := by decide +kernel
theorem dX12_deedOf_23 : decode cX12_deedOf 23 = .ok (.aload_n 0, 1) := by decide +kernel
theorem dX12_deedOf_24 : decode cX12_deedOf 24 = .ok (.bipush (-2), 2) := by decide +kernel
theorem dX12_deedOf_26 : decode cX12_deedOf 26 = .ok (.invokevirtual 439, 3) := by decide +kernel
theorem dX12_deedOf_29 : decode cX12_deedOf 29 = .ok (.ireturn, 1) := by decide +kernel
theorem dX12_deedOf_30 : decode cX12_deedOf 30 = .ok (.aload_n 0, 1) := by decide +kernel
theorem dX12_deedOf_31 : decode cX12_deedOf 31 = .ok (.iload_n 1, 1) := by decide +kernel
theorem dX12_deedOf_32 : decode cX12_deedOf 32 = .ok (.invokevirtual 454, 3) := by decide +kernel
theorem dX12_deedOf_35 : decode cX12_deedOf 35 = .ok (.istore_n 3, 1) := by decide +kernel
theorem dX12_deedOf_36 : decode cX12_deedOf 36 = .ok (.iload_n 2, 1) := by decide +kernel
theorem dX12_deedOf_37 : decode cX12_deedOf 37 = .ok (.ifCond .ne 12, 3) := by decide +kernel
theorem dX12_deedOf_40 : decode cX12_deedOf 40 = .ok (.aload_n 0, 1) := by decide +kernel
theorem dX12_deedOf_41 : decode cX12_deedOf 41 = .ok (.getfield 164, 3) := by decide +kernel
theorem dX12_deedOf_44 : decode cX12_deedOf 44 = .ok (.iload_n 1, 1) := by decide +kernel
theorem dX12_deedOf_45 : decode cX12_deedOf 45 = .ok (.iaload, 1) := by decide +kernel
theorem dX12_deedOf_46 : decode cX12_deedOf 46 = .ok (.goto 54, 3) := by decide +kernel
theorem dX12_deedOf_49 : decode cX12_deedOf 49 = .ok (.iload_n 2, 1) := by decide +kernel
theorem dX12_deedOf_50 : decode cX12_deedOf 50 = .ok (.iconst 1, 1) := by decide +kernel
theorem dX12_deedOf_51 : decode cX12_deedOf 51 = .ok (.if_icmp .ne 12, 3) := by decide +kernel
theorem dX12_deedOf_54 : decode cX12_deedOf 54 = .ok (.aload_n 0, 1) := by decide +kernel
theorem dX12_deedOf_55 : decode cX12_deedOf 55 = .ok (.getfield 167, 3) := by decide +kernel
theorem dX12_deedOf_58 : decode cX12_deedOf 58 = .ok (.iload_n 1, 1) := by decide +kernel
theorem dX12_deedOf_59 : decode cX12_deedOf 59 = .ok (.iaload, 1) := by decide +kernel
theorem dX12_deedOf_60 : decode cX12_deedOf 60 = .ok (.goto 40, 3) := by decide +kernel
theorem dX12_deedOf_63 : decode cX12_deedOf 63 = .ok (.iload_n 2, 1) := by decide +kernel
theorem dX12_deedOf_64 : decode cX12_deedOf 64 = .ok (.iconst 2, 1) := by decide +kernel
theorem dX12_deedOf_65 : decode cX12_deedOf 65 = .ok (.if_icmp .ne 7, 3) := by decide +kernel
theorem dX12_deedOf_68 : decode cX12_deedOf 68 = .ok (.iload_n 3, 1) := by decide +kernel
theorem dX12_deedOf_69 : decode cX12_deedOf 69 = .ok (.goto 31, 3) := by decide +kernel
theorem dX12_deedOf_72 : decode cX12_deedOf 72 = .ok (.iload_n 2, 1) := by decide +kernel
theorem dX12_deedOf_73 : decode cX12_deedOf 73 = .ok (.iconst 3, 1) := by decide +kernel
theorem dX12_deedOf_74 : decode cX12_deedOf 74 = .ok (.if_icmp .ne 12, 3) := by decide +kernel
theorem dX12_deedOf_77 : decode cX12_deedOf 77 = .ok (.aload_n 0, 1) := by decide +kernel
theorem dX12_deedOf_78 : decode cX12_deedOf 78 = .ok (.iload_n 1, 1) := by decide +kernel
theorem dX12_deedOf_79 : decode cX12_deedOf 79 = .ok (.iconst 0, 1) := by decide +kernel
theorem dX12_deedOf_80 : decode cX12_deedOf 80 = .ok (.invokevirtual 457, 3) := by decide +kernel
theorem dX12_deedOf_83 : decode cX12_deedOf 83 = .ok (.goto 17, 3) := by decide +kernel
theorem dX12_deedOf_86 : decode cX12_deedOf 86 = .ok (.iload_n 3, 1) := by decide +kernel
theorem dX12_deedOf_87 : decode cX12_deedOf 87 = .ok (.ifCond .ge 7, 3) := by decide +kernel
theorem dX12_deedOf_90 : decode cX12_deedOf 90 = .ok (.iconst 0, 1) := by decide +kernel
theorem dX12_deedOf_91 : decode cX12_deedOf 91 = .ok (.goto 9, 3) := by decide +kernel
theorem dX12_deedOf_94 : decode cX12_deedOf 94 = .ok (.aload_n 0, 1) := by decide +kernel
theorem dX12_deedOf_95 : decode cX12_deedOf 95 = .ok (.iload_n 1, 1) := by decide +kernel
theorem dX12_deedOf_96 : decode cX12_deedOf 96 = .ok (.iload_n 3, 1) := by decide +kernel
theorem dX12_deedOf_97 : decode cX12_deedOf 97 = .ok (.invokevirtual 457, 3) := by decide +kernel
theorem dX12_deedOf_100 : decode cX12_deedOf 100 = .ok (.ireturn, 1) := by decide +kernel
theorem dX12_hang_0 : decode cX12_hang 0 = .ok (.aload_n 0, 1) := by decide +kernel
theorem dX12_hang_1 : decode cX12_hang 1 = .ok (.iload_n 1, 1) := by decide +kernel
theorem dX12_hang_2 : decode cX12_hang 2 = .ok (.invokevirtual 451, 3) := by decide +kernel
theorem dX12_hang_5 : decode cX12_hang 5 = .ok (.ifCond .ne 9, 3) := by decide +kernel
theorem dX12_hang_8 : decode cX12_hang 8 = .ok (.aload_n 0, 1) := by decide +kernel
theorem dX12_hang_9 : decode cX12_hang 9 = .ok (.iconst (-1), 1) := by decide +kernel
theorem dX12_hang_10 : decode cX12_hang 10 = .ok (.invokevirtual 269, 3) := by decide +kernel
theorem dX12_hang_13 : decode cX12_hang 13 = .ok (.ireturn, 1) := by decide +kernel
theorem dX12_hang_14 : decode cX12_hang 14 = .ok (.iload_n 2, 1) := by decide +kernel
theorem dX12_hang_15 : decode cX12_hang 15 = .ok (.iconst 1, 1) := by decide +kernel
theorem dX12_hang_16 : decode cX12_hang 16 = .ok (.if_icmp .ge 10, 3) := by decide +kernel
theorem dX12_hang_19 : decode cX12_hang 19 = .ok (.aload_n 0, 1) := by decide +kernel
theorem dX12_hang_20 : decode cX12_hang 20 = .ok (.bipush (-4), 2) := by decide +kernel
theorem dX12_hang_22 : decode cX12_hang 22 = .ok (.invokevirtual 269, 3) := by decide +kernel
theorem dX12_hang_25 : decode cX12_hang 25 = .ok (.ireturn, 1) := by decide +kernel
theorem dX12_hang_26 : decode cX12_hang 26 = .ok (.iload_n 2, 1) := by decide +kernel
theorem dX12_hang_27 : decode cX12_hang 27 = .ok (.sipush 9999, 3) := by decide +kernel
theorem dX12_hang_30 : decode cX12_hang 30 = .ok (.if_icmp .gt 12, 3) := by decide +kernel
theorem dX12_hang_33 : decode cX12_hang 33 = .ok (.aload_n 0, 1) := by decide +kernel
theorem dX12_hang_34 : decode cX12_hang 34 = .ok (.getfield 448, 3) := by decide +kernel
theorem dX12_hang_37 : decode cX12_hang 37 = .ok (.bipush 100, 2) := by decide +kernel
theorem dX12_hang_39 : decode cX12_hang 39 = .ok (.if_icmp .ne 10, 3) := by decide +kernel
theorem dX12_hang_42 : decode cX12_hang 42 = .ok (.aload_n 0, 1) := by decide +kernel
theorem dX12_hang_43 : decode cX12_hang 43 = .ok (.bipush (-6), 2) := by decide +kernel
theorem dX12_hang_45 : decode cX12_hang 45 = .ok (.invokevirtual 269, 3) := by decide +kernel
theorem dX12_hang_48 : decode cX12_hang 48 = .ok (.ireturn, 1) := by decide +kernel
theorem dX12_hang_49 : decode cX12_hang 49 = .ok (.aload_n 0, 1) := by decide +kernel
theorem dX12_hang_50 : decode cX12_hang 50 = .ok (.getfield 179, 3) := by decide +kernel
theorem dX12_hang_53 : decode cX12_hang 53 = .ok (.aload_n 0, 1) := by decide +kernel
theorem dX12_hang_54 : decode cX12_hang 54 = .ok (.getfield 448, 3) := by decide +kernel
theorem dX12_hang_57 : decode cX12_hang 57 = .ok (.iload_n 1, 1) := by decide +kernel
theorem dX12_hang_58 : decode cX12_hang 58 = .ok (.iastore, 1) := by decide +kernel
theorem dX12_hang_59 : decode cX12_hang 59 = .ok (.aload_n 0, 1) := by decide +kernel
theorem dX12_hang_60 : decode cX12_hang 60 = .ok (.getfield 182, 3) := by decide +kernel
theorem dX12_hang_63 : decode cX12_hang 63 = .ok (.aload_n 0, 1) := by decide +kernel
theorem dX12_hang_64 : decode cX12_hang 64 = .ok (.getfield 448, 3) := by decide +kernel
theorem dX12_hang_67 : decode cX12_hang 67 = .ok (.aload_n 0, 1) := by decide +kernel
theorem dX12_hang_68 : decode cX12_hang 68 = .ok (.getfield 273, 3) := by decide +kernel
theorem dX12_hang_71 : decode cX12_hang 71 = .ok (.iastore, 1) := by decide +kernel
theorem dX12_hang_72 : decode cX12_hang 72 = .ok (.aload_n 0, 1) := by decide +kernel
theorem dX12_hang_73 : decode cX12_hang 73 = .ok (.getfield 185, 3) := by decide +kernel
theorem dX12_hang_76 : decode cX12_hang 76 = .ok (.aload_n 0, 1) := by decide +kernel
theorem dX12_hang_77 : decode cX12_hang 77 = .ok (.getfield 448, 3) := by decide +kernel
theorem dX12_hang_80 : decode cX12_hang 80 = .ok (.iload_n 2, 1) := by decide +kernel
theorem dX12_hang_81 : decode cX12_hang 81 = .ok (.iastore, 1) := by decide +kernel
theorem dX12_hang_82 : decode cX12_hang 82 = .ok (.aload_n 0, 1) := by decide +kernel
theorem dX12_hang_83 : decode cX12_hang 83 = .ok (.dup, 1) := by decide +kernel
theorem dX12_hang_84 : decode cX12_hang 84 = .ok (.getfield 448, 3) := by decide +kernel
theorem dX12_hang_87 : decode cX12_hang 87 = .ok (.iconst 1, 1) := by decide +kernel
theorem dX12_hang_88 : decode cX12_hang 88 = .ok (.iadd, 1) := by decide +kernel
theorem dX12_hang_89 : decode cX12_hang 89 = .ok (.putfield 448, 3) := by decide +kernel
theorem dX12_hang_92 : decode cX12_hang 92 = .ok (.iconst 0, 1) := by decide +kernel
theorem dX12_hang_93 : decode cX12_hang 93 = .ok (.istore_n 3, 1) := by decide +kernel
theorem dX12_hang_94 : decode cX12_hang 94 = .ok (.iconst 0, 1) := by decide +kernel
theorem dX12_hang_95 : decode cX12_hang 95 = .ok (.istore 4, 2) := by decide +kernel
theorem dX12_hang_97 : decode cX12_hang 97 = .ok (.iload 4, 2) := by decide +kernel
theorem dX12_hang_99 : decode cX12_hang 99 = .ok (.aload_n 0, 1) := by decide +kernel
theorem dX12_hang_100 : decode cX12_hang 100 = .ok (.getfield 448, 3) := by decide +kernel
theorem dX12_hang_103 : decode cX12_hang 103 = .ok (.if_icmp .ge 28, 3) := by decide +kernel
theorem dX12_hang_106 : decode cX12_hang 106 = .ok (.iload_n 3, 1) := by decide +kernel
theorem dX12_hang_107 : decode cX12_hang 107 = .ok (.aload_n 0, 1) := by decide +kernel
theorem dX12_hang_108 : decode cX12_hang 108 = .ok (.getfield 179, 3) := by decide +kernel
theorem dX12_hang_111 : decode cX12_hang 111 = .ok (.iload 4, 2) := by decide +kernel
theorem dX12_hang_113 : decode cX12_hang 113 = .ok (.iaload, 1) := by decide +kernel
theorem dX12_hang_114 : decode cX12_hang 114 = .ok (.iload_n 1, 1) := by decide +kernel
theorem dX12_hang_115 : decode cX12_hang 115 = .ok (.if_icmp .ne 7, 3) := by decide +kernel
theorem dX12_hang_118 : decode cX12_hang 118 = .ok (.iconst 1, 1) := by decide +kernel
theorem dX12_hang_119 : decode cX12_hang 119 = .ok (.goto 4, 3) := by decide +kernel
theorem dX12_hang_122 : decode cX12_hang 122 = .ok (.iconst 0, 1) := by decide +kernel
theorem dX12_hang_123 : decode cX12_hang 123 = .ok (.iadd, 1) := by decide +kernel
theorem dX12_hang_124 : decode cX12_hang 124 = .ok (.istore_n 3, 1) := by decide +kernel
theorem dX12_hang_125 : decode cX12_hang 125 = .ok (.iinc 4 1, 3) := by decide +kernel
theorem dX12_hang_128 : decode cX12_hang 128 = .ok (.goto (-31), 3) := by decide +kernel
theorem dX12_hang_131 : decode cX12_hang 131 = .ok (.iload_n 3, 1) := by decide +kernel
theorem dX12_hang_132 : decode cX12_hang 132 = .ok (.ireturn, 1) := by decide +kernel
theorem dX12_need_0 : decode cX12_need 0 = .ok (.iload_n 1, 1) := by decide +kernel
theorem dX12_need_1 : decode cX12_need 1 = .ok (.iconst 0, 1) := by decide +kernel
theorem dX12_need_2 : decode cX12_need 2 = .ok (.iconst 2, 1) := by decide +kernel
theorem dX12_need_3 : decode cX12_need 3 = .ok (.invokestatic 262, 3) := by decide +kernel
theorem dX12_need_6 : decode cX12_need 6 = .ok (.ifCond .ne 10, 3) := by decide +kernel
theorem dX12_need_9 : decode cX12_need 9 = .ok (.aload_n 0, 1) := by decide +kernel
theorem dX12_need_10 : decode cX12_need 10 = .ok (.bipush (-2), 2) := by decide +kernel
theorem dX12_need_12 : decode cX12_need 12 = .ok (.invokevirtual 269, 3) := by decide +kernel
theorem dX12_need_15 : decode cX12_need 15 = .ok (.ireturn, 1) := by decide +kernel
theorem dX12_need_16 : decode cX12_need 16 = .ok (.iload_n 2, 1) := by decide +kernel
theorem dX12_need_17 : decode cX12_need 17 = .ok (.ifCond .ge 10, 3) := by decide +kernel
theorem dX12_need_20 : decode cX12_need 20 = .ok (.aload_n 0, 1) := by decide +kernel
theorem dX12_need_21 : decode cX12_need 21 = .ok (.bipush (-4), 2) := by decide +kernel
theorem dX12_need_23 : decode cX12_need 23 = .ok (.invokevirtual 269, 3) := by decide +kernel
theorem dX12_need_26 : decode cX12_need 26 = .ok (.ireturn, 1) := by decide +kernel
theorem dX12_need_27 : decode cX12_need 27 = .ok (.iload_n 2, 1) := by decide +kernel
theorem dX12_need_28 : decode cX12_need 28 = .ok (.iconst 2, 1) := by decide +kernel
theorem dX12_need_29 : decode cX12_need 29 = .ok (.if_icmp .le 10, 3) := by decide +kernel
theorem dX12_need_32 : decode cX12_need 32 = .ok (.aload_n 0, 1) := by decide +kernel
theorem dX12_need_33 : decode cX12_need 33 = .ok (.bipush (-6), 2) := by decide +kernel
theorem dX12_need_35 : decode cX12_need 35 = .ok (.invokevirtual 269, 3) := by decide +kernel
theorem dX12_need_38 : decode cX12_need 38 = .ok (.ireturn, 1) := by decide +kernel
theorem dX12_need_39 : decode cX12_need 39 = .ok (.aload_n 0, 1) := by decide +kernel
theorem dX12_need_40 : decode cX12_need 40 = .ok (.getfield 188, 3) := by decide +kernel
theorem dX12_need_43 : decode cX12_need 43 = .ok (.iload_n 1, 1) := by decide +kernel
theorem dX12_need_44 : decode cX12_need 44 = .ok (.iaload, 1) := by decide +kernel
theorem dX12_need_45 : decode cX12_need 45 = .ok (.istore_n 3, 1) := by decide +kernel
theorem dX12_need_46 : decode cX12_need 46 = .ok (.aload_n 0, 1) := by decide +kernel
theorem dX12_need_47 : decode cX12_need 47 = .ok (.getfield 188, 3) := by decide +kernel
theorem dX12_need_50 : decode cX12_need 50 = .ok (.iload_n 1, 1) := by decide +kernel
theorem dX12_need_51 : decode cX12_need 51 = .ok (.iload_n 2, 1) := by decide +kernel
theorem dX12_need_52 : decode cX12_need 52 = .ok (.iastore, 1) := by decide +kernel
theorem dX12_need_53 : decode cX12_need 53 = .ok (.aload_n 0, 1) := by decide +kernel
theorem dX12_need_54 : decode cX12_need 54 = .ok (.iconst (-1), 1) := by decide +kernel
theorem dX12_need_55 : decode cX12_need 55 = .ok (.putfield 218, 3) := by decide +kernel
theorem dX12_need_58 : decode cX12_need 58 = .ok (.iload_n 3, 1) := by decide +kernel
theorem dX12_need_59 : decode cX12_need 59 = .ok (.ireturn, 1) := by decide +kernel
theorem dX12_wish_0 : decode cX12_wish 0 = .ok (.aload_n 0, 1) := by decide +kernel
theorem dX12_wish_1 : decode cX12_wish 1 = .ok (.iload_n 1, 1) := by decide +kernel
theorem dX12_wish_2 : decode cX12_wish 2 = .ok (.invokevirtual 284, 3) := by decide +kernel
theorem dX12_wish_5 : decode cX12_wish 5 = .ok (.ifCond .ne 9, 3) := by decide +kernel
theorem dX12_wish_8 : decode cX12_wish 8 = .ok (.aload_n 0, 1) := by decide +kernel
theorem dX12_wish_9 : decode cX12_wish 9 = .ok (.iconst (-1), 1) := by decide +kernel
theorem dX12_wish_10 : decode cX12_wish 10 = .ok (.invokevirtual 269, 3) := by decide +kernel
theorem dX12_wish_13 : decode cX12_wish 13 = .ok (.ireturn, 1) := by decide +kernel
theorem dX12_wish_14 : decode cX12_wish 14 = .ok (.iload_n 3, 1) := by decide +kernel
theorem dX12_wish_15 : decode cX12_wish 15 = .ok (.iconst 0, 1) := by decide +kernel
theorem dX12_wish_16 : decode cX12_wish 16 = .ok (.iconst 2, 1) := by decide +kernel
theorem dX12_wish_17 : decode cX12_wish 17 = .ok (.invokestatic 262, 3) := by decide +kernel
theorem dX12_wish_20 : decode cX12_wish 20 = .ok (.ifCond .ne 10, 3) := by decide +kernel
theorem dX12_wish_23 : decode cX12_wish 23 = .ok (.aload_n 0, 1) := by decide +kernel
theorem dX12_wish_24 : decode cX12_wish 24 = .ok (.bipush (-2), 2) := by decide +kernel
theorem dX12_wish_26 : decode cX12_wish 26 = .ok (.invokevirtual 269, 3) := by decide +kernel
theorem dX12_wish_29 : decode cX12_wish 29 = .ok (.ireturn, 1) := by decide +kernel
theorem dX12_wish_30 : decode cX12_wish 30 = .ok (.iload_n 2, 1) := by decide +kernel
theorem dX12_wish_31 : decode cX12_wish 31 = .ok (.iconst 0, 1) := by decide +kernel
theorem dX12_wish_32 : decode cX12_wish 32 = .ok (.iconst 3, 1) := by decide +kernel
theorem dX12_wish_33 : decode cX12_wish 33 = .ok (.invokestatic 262, 3) := by decide +kernel
theorem dX12_wish_36 : decode cX12_wish 36 = .ok (.ifCond .ne 10, 3) := by decide +kernel
theorem dX12_wish_39 : decode cX12_wish 39 = .ok (.aload_n 0, 1) := by decide +kernel
theorem dX12_wish_40 : decode cX12_wish 40 = .ok (.bipush (-3), 2) := by decide +kernel
theorem dX12_wish_42 : decode cX12_wish 42 = .ok (.invokevirtual 269, 3) := by decide +kernel
theorem dX12_wish_45 : decode cX12_wish 45 = .ok (.ireturn, 1) := by decide +kernel
theorem dX12_wish_46 : decode cX12_wish 46 = .ok (.bipush 12, 2) := by decide +kernel
theorem dX12_wish_48 : decode cX12_wish 48 = .ok (.iload_n 1, 1) := by decide +kernel
theorem dX12_wish_49 : decode cX12_wish 49 = .ok (.imul, 1) := by decide +kernel
theorem dX12_wish_50 : decode cX12_wish 50 = .ok (.iconst 3, 1) := by decide +kernel
theorem dX12_wish_51 : decode cX12_wish 51 = .ok (.iload_n 2, 1) := by decide +kernel
theorem dX12_wish_52 : decode cX12_wish 52 = .ok (.imul, 1) := by decide +kernel
theorem dX12_wish_53 : decode cX12_wish 53 = .ok (.iadd, 1) := by decide +kernel
theorem dX12_wish_54 : decode cX12_wish 54 = .ok (.iload_n 3, 1) := by decide +kernel
theorem dX12_wish_55 : decode cX12_wish 55 = .ok (.iadd, 1) := by decide +kernel
theorem dX12_wish_56 : decode cX12_wish 56 = .ok (.istore 5, 2) := by decide +kernel
theorem dX12_wish_58 : decode cX12_wish 58 = .ok (.aload_n 0, 1) := by decide +kernel
theorem dX12_wish_59 : decode cX12_wish 59 = .ok (.getfield 191, 3) := by decide +kernel
theorem dX12_wish_62 : decode cX12_wish 62 = .ok (.iload 5, 2) := by decide +kernel
theorem dX12_wish_64 : decode cX12_wish 64 = .ok (.baload, 1) := by decide +kernel
theorem dX12_wish_65 : decode cX12_wish 65 = .ok (.istore 6, 2) := by decide +kernel
theorem dX12_wish_67 : decode cX12_wish 67 = .ok (.aload_n 0, 1) := by decide +kernel
theorem dX12_wish_68 : decode cX12_wish 68 = .ok (.getfield 191, 3) := by decide +kernel
theorem dX12_wish_71 : decode cX12_wish 71 = .ok (.iload 5, 2) := by decide +kernel
theorem dX12_wish_73 : decode cX12_wish 73 = .ok (.iload 4, 2) := by decide +kernel
theorem dX12_wish_75 : decode cX12_wish 75 = .ok (.bastore, 1) := by decide +kernel
theorem dX12_wish_76 : decode cX12_wish 76 = .ok (.aload_n 0, 1) := by decide +kernel
theorem dX12_wish_77 : decode cX12_wish 77 = .ok (.iconst (-1), 1) := by decide +kernel
theorem dX12_wish_78 : decode cX12_wish 78 = .ok (.putfield 218, 3) := by decide +kernel
theorem dX12_wish_81 : decode cX12_wish 81 = .ok (.iload 6, 2) := by decide +kernel
theorem dX12_wish_83 : decode cX12_wish 83 = .ok (.iload 4, 2) := by decide +kernel
theorem dX12_wish_85 : decode cX12_wish 85 = .ok (.if_icmp .ne 7, 3) := by decide +kernel
theorem dX12_wish_88 : decode cX12_wish 88 = .ok (.iconst 0, 1) := by decide +kernel
theorem dX12_wish_89 : decode cX12_wish 89 = .ok (.goto 4, 3) := by decide +kernel
theorem dX12_wish_92 : decode cX12_wish 92 = .ok (.iconst 1, 1) := by decide +kernel
theorem dX12_wish_93 : decode cX12_wish 93 = .ok (.ireturn, 1) := by decide +kernel
theorem dX12_findFour_0 : decode cX12_findFour 0 = .ok (.aload_n 0, 1) := by decide +kernel
theorem dX12_findFour_1 : decode cX12_findFour 1 = .ok (.iconst 0, 1) := by decide +kernel
theorem dX12_findFour_2 : decode cX12_findFour 2 = .ok (.putfield 460, 3) := by decide +kernel
theorem dX12_findFour_5 : decode cX12_findFour 5 = .ok (.iconst 0, 1) := by decide +kernel
theorem dX12_findFour_6 : decode cX12_findFour 6 = .ok (.istore_n 2, 1) := by decide +kernel
theorem dX12_findFour_7 : decode cX12_findFour 7 = .ok (.iload_n 2, 1) := by decide +kernel
theorem dX12_findFour_8 : decode cX12_findFour 8 = .ok (.aload_n 0, 1) := by decide +kernel
theorem dX12_findFour_9 : decode cX12_findFour 9 = .ok (.getfield 266, 3) := by decide +kernel
theorem dX12_findFour_12 : decode cX12_findFour 12 = .ok (.if_icmp .ge 56, 3) := by decide +kernel
theorem dX12_findFour_15 : decode cX12_findFour 15 = .ok (.aload_n 0, 1) := by decide +kernel
theorem dX12_findFour_16 : decode cX12_findFour 16 = .ok (.getfield 460, 3) := by decide +kernel
theorem dX12_findFour_19 : decode cX12_findFour 19 = .ok (.iconst 4, 1) := by decide +kernel
theorem dX12_findFour_20 : decode cX12_findFour 20 = .ok (.if_icmp .ge 48, 3) := by decide +kernel
theorem dX12_findFour_23 : decode cX12_findFour 23 = .ok (.aload_n 0, 1) := by decide +kernel
theorem dX12_findFour_24 : decode cX12_findFour 24 = .ok (.getfield 13, 3) := by decide +kernel
theorem dX12_findFour_27 : decode cX12_findFour 27 = .ok (.iload_n 2, 1) := by decide +kernel
theorem dX12_findFour_28 : decode cX12_findFour 28 = .ok (.iaload, 1) := by decide +kernel
theorem dX12_findFour_29 : decode cX12_findFour 29 = .ok (.iload_n 1, 1) := by decide +kernel
theorem dX12_findFour_30 : decode cX12_findFour 30 = .ok (.if_icmp .ne 32, 3) := by decide +kernel
theorem dX12_findFour_33 : decode cX12_findFour 33 = .ok (.aload_n 0, 1) := by decide +kernel
theorem dX12_findFour_34 : decode cX12_findFour 34 = .ok (.getfield 29, 3) := by decide +kernel
theorem dX12_findFour_37 : decode cX12_findFour 37 = .ok (.iload_n 2, 1) := by decide +kernel
theorem dX12_findFour_38 : decode cX12_findFour 38 = .ok (.baload, 1) := by decide +kernel
theorem dX12_findFour_39 : decode cX12_findFour 39 = .ok (.ifCond .ne 23, 3) := by decide +kernel
theorem dX12_findFour_42 : decode cX12_findFour 42 = .ok (.aload_n 0, 1) := by decide +kernel
theorem dX12_findFour_43 : decode cX12_findFour 43 = .ok (.getfield 194, 3) := by decide +kernel
theorem dX12_findFour_46 : decode cX12_findFour 46 = .ok (.aload_n 0, 1) := by decide +kernel
theorem dX12_findFour_47 : decode cX12_findFour 47 = .ok (.getfield 460, 3) := by decide +kernel
theorem dX12_findFour_50 : decode cX12_findFour 50 = .ok (.iload_n 2, 1) := by decide +kernel
theorem dX12_findFour_51 : decode cX12_findFour 51 = .ok (.iastore, 1) := by decide +kernel
theorem dX12_findFour_52 : decode cX12_findFour 52 = .ok (.aload_n 0, 1) := by decide +kernel
theorem dX12_findFour_53 : decode cX12_findFour 53 = .ok (.dup, 1) := by decide +kernel
theorem dX12_findFour_54 : decode cX12_findFour 54 = .ok (.getfield 460, 3) := by decide +kernel
theorem dX12_findFour_57 : decode cX12_findFour 57 = .ok (.iconst 1, 1) := by decide +kernel
theorem dX12_findFour_58 : decode cX12_findFour 58 = .ok (.iadd, 1) := by decide +kernel
theorem dX12_findFour_59 : decode cX12_findFour 59 = .ok (.putfield 460, 3) := by decide +kernel
theorem dX12_findFour_62 : decode cX12_findFour 62 = .ok (.iinc 2 1, 3) := by decide +kernel
theorem dX12_findFour_65 : decode cX12_findFour 65 = .ok (.goto (-58), 3) := by decide +kernel
theorem dX12_findFour_68 : decode cX12_findFour 68 = .ok (.return_, 1) := by decide +kernel
theorem dX12_shiftIn_0 : decode cX12_shiftIn 0 = .ok (.iload_n 0, 1) := by decide +kernel
theorem dX12_shiftIn_1 : decode cX12_shiftIn 1 = .ok (.bipush 6, 2) := by decide +kernel
theorem dX12_shiftIn_3 : decode cX12_shiftIn 3 = .ok (.iconst 2, 1) := by decide +kernel
theorem dX12_shiftIn_4 : decode cX12_shiftIn 4 = .ok (.iload_n 1, 1) := by decide +kernel
theorem dX12_shiftIn_5 : decode cX12_shiftIn 5 = .ok (.imul, 1) := by decide +kernel
theorem dX12_shiftIn_6 : decode cX12_shiftIn 6 = .ok (.isub, 1) := by decide +kernel
theorem dX12_shiftIn_7 : decode cX12_shiftIn 7 = .ok (.ishr, 1) := by decide +kernel
theorem dX12_shiftIn_8 : decode cX12_shiftIn 8 = .ok (.iconst 3, 1) := by decide +kernel
theorem dX12_shiftIn_9 : decode cX12_shiftIn 9 = .ok (.iand, 1) := by decide +kernel
theorem dX12_shiftIn_10 : decode cX12_shiftIn 10 = .ok (.ireturn, 1) := by decide +kernel
theorem dX12_isNeeded_0 : decode cX12_isNeeded 0 = .ok (.iconst 1, 1) := by decide +kernel
theorem dX12_isNeeded_1 : decode cX12_isNeeded 1 = .ok (.istore_n 2, 1) := by decide +kernel
theorem dX12_isNeeded_2 : decode cX12_isNeeded 2 = .ok (.iconst 0, 1) := by decide +kernel
theorem dX12_isNeeded_3 : decode cX12_isNeeded 3 = .ok (.istore_n 3, 1) := by decide +kernel
theorem dX12_isNeeded_4 : decode cX12_isNeeded 4 = .ok (.iload_n 3, 1) := by decide +kernel
theorem dX12_isNeeded_5 : decode cX12_isNeeded 5 = .ok (.iconst 3, 1) := by decide +kernel
theorem dX12_isNeeded_6 : decode cX12_isNeeded 6 = .ok (.if_icmp .ge 68, 3) := by decide +kernel
theorem dX12_isNeeded_9 : decode cX12_isNeeded 9 = .ok (.iconst 0, 1) := by decide +kernel
theorem dX12_isNeeded_10 : decode cX12_isNeeded 10 = .ok (.istore 4, 2) := by decide +kernel
theorem dX12_isNeeded_12 : decode cX12_isNeeded 12 = .ok (.iconst 0, 1) := by decide +kernel
theorem dX12_isNeeded_13 : decode cX12_isNeeded 13 = .ok (.istore 5, 2) := by decide +kernel
theorem dX12_isNeeded_15 : decode cX12_isNeeded 15 = .ok (.iload 5, 2) := by decide +kernel
theorem dX12_isNeeded_17 : decode cX12_isNeeded 17 = .ok (.iconst 4, 1) := by decide +kernel
theorem dX12_isNeeded_18 : decode cX12_isNeeded 18 = .ok (.if_icmp .ge 29, 3) := by decide +kernel
theorem dX12_isNeeded_21 : decode cX12_isNeeded 21 = .ok (.iload 4, 2) := by decide +kernel
theorem dX12_isNeeded_23 : decode cX12_isNeeded 23 = .ok (.iload_n 1, 1) := by decide +kernel
theorem dX12_isNeeded_24 : decode cX12_isNeeded 24 = .ok (.iload 5, 2) := by decide +kernel
theorem dX12_isNeeded_26 : decode cX12_isNeeded 26 = .ok (.invokestatic 463, 3) := by decide +kernel
theorem dX12_isNeeded_29 : decode cX12_isNeeded 29 = .ok (.iload_n 3, 1) := by decide +kernel
theorem dX12_isNeeded_30 : decode cX12_isNeeded 30 = .ok (.if_icmp .ne 7, 3) := by decide +kernel
theorem dX12_isNeeded_33 : decode cX12_isNeeded 33 = .ok (.iconst 1, 1) := by decide +kernel
theorem dX12_isNeeded_34 : decode cX12_isNeeded 34 = .ok (.goto 4, 3) := by decide +kernel
theorem dX12_isNeeded_37 : decode cX12_isNeeded 37 = .ok (.iconst 0, 1) := by decide +kernel
theorem dX12_isNeeded_38 : decode cX12_isNeeded 38 = .ok (.iadd, 1) := by decide +kernel
theorem dX12_isNeeded_39 : decode cX12_isNeeded 39 = .ok (.istore 4, 2) := by decide +kernel
theorem dX12_isNeeded_41 : decode cX12_isNeeded 41 = .ok (.iinc 5 1, 3) := by decide +kernel
theorem dX12_isNeeded_44 : decode cX12_isNeeded 44 = .ok (.goto (-29), 3) := by decide +kernel
theorem dX12_isNeeded_47 : decode cX12_isNeeded 47 = .ok (.iload_n 2, 1) := by decide +kernel
theorem dX12_isNeeded_48 : decode cX12_isNeeded 48 = .ok (.ifCond .eq 18, 3) := by decide +kernel
theorem dX12_isNeeded_51 : decode cX12_isNeeded 51 = .ok (.iload 4, 2) := by decide +kernel
theorem dX12_isNeeded_53 : decode cX12_isNeeded 53 = .ok (.aload_n 0, 1) := by decide +kernel
theorem dX12_isNeeded_54 : decode cX12_isNeeded 54 = .ok (.getfield 188, 3) := by decide +kernel
theorem dX12_isNeeded_57 : decode cX12_isNeeded 57 = .ok (.iload_n 3, 1) := by decide +kernel
theorem dX12_isNeeded_58 : decode cX12_isNeeded 58 = .ok (.iaload, 1) := by decide +kernel
theorem dX12_isNeeded_59 : decode cX12_isNeeded 59 = .ok (.if_icmp .ne 7, 3) := by decide +kernel
theorem dX12_isNeeded_62 : decode cX12_isNeeded 62 = .ok (.iconst 1, 1) := by decide +kernel
theorem dX12_isNeeded_63 : decode cX12_isNeeded 63 = .ok (.goto 4, 3) := by decide +kernel
theorem dX12_isNeeded_66 : decode cX12_isNeeded 66 = .ok (.iconst 0, 1) := by decide +kernel
theorem dX12_isNeeded_67 : decode cX12_isNeeded 67 = .ok (.istore_n 2, 1) := by decide +kernel
theorem dX12_isNeeded_68 : decode cX12_isNeeded 68 = .ok (.iinc 3 1, 3) := by decide +kernel
theorem dX12_isNeeded_71 : decode cX12_isNeeded 71 = .ok (.goto (-67), 3) := by decide +kernel
theorem dX12_isNeeded_74 : decode cX12_isNeeded 74 = .ok (.iload_n 2, 1) := by decide +kernel
theorem dX12_isNeeded_75 : decode cX12_isNeeded 75 = .ok (.ireturn, 1) := by decide +kernel
theorem dX12_findNeeded_0 : decode cX12_findNeeded 0 = .ok (.aload_n 0, 1) := by decide +kernel
theorem dX12_findNeeded_1 : decode cX12_findNeeded 1 = .ok (.iconst 0, 1) := by decide +kernel
theorem dX12_findNeeded_2 : decode cX12_findNeeded 2 = .ok (.putfield 466, 3) := by decide +kernel
theorem dX12_findNeeded_5 : decode cX12_findNeeded 5 = .ok (.iconst 0, 1) := by decide +kernel
theorem dX12_findNeeded_6 : decode cX12_findNeeded 6 = .ok (.istore_n 1, 1) := by decide +kernel
theorem dX12_findNeeded_7 : decode cX12_findNeeded 7 = .ok (.iload_n 1, 1) := by decide +kernel
theorem dX12_findNeeded_8 : decode cX12_findNeeded 8 = .ok (.sipush 256, 3) := by decide +kernel
theorem dX12_findNeeded_11 : decode cX12_findNeeded 11 = .ok (.if_icmp .ge 90, 3) := by decide +kernel
theorem dX12_findNeeded_14 : decode cX12_findNeeded 14 = .ok (.aload_n 0, 1) := by decide +kernel
theorem dX12_findNeeded_15 : decode cX12_findNeeded 15 = .ok (.iload_n 1, 1) := by decide +kernel
theorem dX12_findNeeded_16 : decode cX12_findNeeded 16 = .ok (.invokevirtual 469, 3) := by decide +kernel
theorem dX12_findNeeded_19 : decode cX12_findNeeded 19 = .ok (.ifCond .eq 76, 3) := by decide +kernel
theorem dX12_findNeeded_22 : decode cX12_findNeeded 22 = .ok (.aload_n 0, 1) := by decide +kernel
theorem dX12_findNeeded_23 : decode cX12_findNeeded 23 = .ok (.getfield 206, 3) := by decide +kernel
theorem dX12_findNeeded_26 : decode cX12_findNeeded 26 = .ok (.aload_n 0, 1) := by decide +kernel
theorem dX12_findNeeded_27 : decode cX12_findNeeded 27 = .ok (.getfield 466, 3) := by decide +kernel
theorem dX12_findNeeded_30 : decode cX12_findNeeded 30 = .ok (.iload_n 1, 1) := by decide +kernel
theorem dX12_findNeeded_31 : decode cX12_findNeeded 31 = .ok (.iastore, 1) := by decide +kernel
theorem dX12_findNeeded_32 : decode cX12_findNeeded 32 = .ok (.aload_n 0, 1) := by decide +kernel
theorem dX12_findNeeded_33 : decode cX12_findNeeded 33 = .ok (.getfield 209, 3) := by decide +kernel
theorem dX12_findNeeded_36 : decode cX12_findNeeded 36 = .ok (.aload_n 0, 1) := by decide +kernel
theorem dX12_findNeeded_37 : decode cX12_findNeeded 37 = .ok (.getfield 466, 3) := by decide +kernel
theorem dX12_findNeeded_40 : decode cX12_findNeeded 40 = .ok (.iconst 0, 1) := by decide +kernel
theorem dX12_findNeeded_41 : decode cX12_findNeeded 41 = .ok (.iastore, 1) := by decide +kernel
theorem dX12_findNeeded_42 : decode cX12_findNeeded 42 = .ok (.iconst 0, 1) := by decide +kernel
theorem dX12_findNeeded_43 : decode cX12_findNeeded 43 = .ok (.istore_n 2, 1) := by decide +kernel
theorem dX12_findNeeded_44 : decode cX12_findNeeded 44 = .ok (.iload_n 2, 1) := by decide +kernel
theorem dX12_findNeeded_45 : decode cX12_findNeeded 45 = .ok (.iconst 4, 1) := by decide +kernel
theorem dX12_findNeeded_46 : decode cX12_findNeeded 46 = .ok (.if_icmp .ge 39, 3) := by decide +kernel
theorem dX12_findNeeded_49 : decode cX12_findNeeded 49 = .ok (.aload_n 0, 1) := by decide +kernel
theorem dX12_findNeeded_50 : decode cX12_findNeeded 50 = .ok (.getfield 209, 3) := by decide +kernel
theorem dX12_findNeeded_53 : decode cX12_findNeeded 53 = .ok (.aload_n 0, 1) := by decide +kernel
theorem dX12_findNeeded_54 : decode cX12_findNeeded 54 = .ok (.getfield 466, 3) := by decide +kernel
theorem dX12_findNeeded_57 : decode cX12_findNeeded 57 = .ok (.dup2, 1) := by decide +kernel
theorem dX12_findNeeded_58 : decode cX12_findNeeded 58 = .ok (.iaload, 1) := by decide +kernel
theorem dX12_findNeeded_59 : decode cX12_findNeeded 59 = .ok (.iload_n 1, 1) := by decide +kernel
theorem dX12_findNeeded_60 : decode cX12_findNeeded 60 = .ok (.iload_n 2, 1) := by decide +kernel
theorem dX12_findNeeded_61 : decode cX12_findNeeded 61 = .ok (.invokestatic 463, 3) := by decide +kernel
theorem dX12_findNeeded_64 : decode cX12_findNeeded 64 = .ok (.iconst 3, 1) := by decide +kernel
theorem dX12_findNeeded_65 : decode cX12_findNeeded 65 = .ok (.if_icmp .ge 7, 3) := by decide +kernel
theorem dX12_findNeeded_68 : decode cX12_findNeeded 68 = .ok (.iconst 1, 1) := by decide +kernel
theorem dX12_findNeeded_69 : decode cX12_findNeeded 69 = .ok (.goto 4, 3) := by decide +kernel
theorem dX12_findNeeded_72 : decode cX12_findNeeded 72 = .ok (.iconst 0, 1) := by decide +kernel
theorem dX12_findNeeded_73 : decode cX12_findNeeded 73 = .ok (.iconst 4, 1) := by decide +kernel
theorem dX12_findNeeded_74 : decode cX12_findNeeded 74 = .ok (.iload_n 2, 1) := by decide +kernel
theorem dX12_findNeeded_75 : decode cX12_findNeeded 75 = .ok (.imul, 1) := by decide +kernel
theorem dX12_findNeeded_76 : decode cX12_findNeeded 76 = .ok (.ishl, 1) := by decide +kernel
theorem dX12_findNeeded_77 : decode cX12_findNeeded 77 = .ok (.ior, 1) := by decide +kernel
theorem dX12_findNeeded_78 : decode cX12_findNeeded 78 = .ok (.iastore, 1) := by decide +kernel
theorem dX12_findNeeded_79 : decode cX12_findNeeded 79 = .ok (.iinc 2 1, 3) := by decide +kernel
theorem dX12_findNeeded_82 : decode cX12_findNeeded 82 = .ok (.goto (-38), 3) := by decide +kernel
theorem dX12_findNeeded_85 : decode cX12_findNeeded 85 = .ok (.aload_n 0, 1) := by decide +kernel
theorem dX12_findNeeded_86 : decode cX12_findNeeded 86 = .ok (.dup, 1) := by decide +kernel
theorem dX12_findNeeded_87 : decode cX12_findNeeded 87 = .ok (.getfield 466, 3) := by decide +kernel
theorem dX12_findNeeded_90 : decode cX12_findNeeded 90 = .ok (.iconst 1, 1) := by decide +kernel
theorem dX12_findNeeded_91 : decode cX12_findNeeded 91 = .ok (.iadd, 1) := by decide +kernel
theorem dX12_findNeeded_92 : decode cX12_findNeeded 92 = .ok (.putfield 466, 3) := by decide +kernel
theorem dX12_findNeeded_95 : decode cX12_findNeeded 95 = .ok (.iinc 1 1, 3) := by decide +kernel
theorem dX12_findNeeded_98 : decode cX12_findNeeded 98 = .ok (.goto (-91), 3) := by decide +kernel
theorem dX12_findNeeded_101 : decode cX12_findNeeded 101 = .ok (.return_, 1) := by decide +kernel
theorem dX12_mayStand_0 : decode cX12_mayStand 0 = .ok (.aload_n 0, 1) := by decide +kernel
theorem dX12_mayStand_1 : decode cX12_mayStand 1 = .ok (.getfield 215, 3) := by decide +kernel
theorem dX12_mayStand_4 : decode cX12_mayStand 4 = .ok (.iload_n 1, 1) := by decide +kernel
theorem dX12_mayStand_5 : decode cX12_mayStand 5 = .ok (.iaload, 1) := by decide +kernel
theorem dX12_mayStand_6 : decode cX12_mayStand 6 = .ok (.aload_n 0, 1) := by decide +kernel
theorem dX12_mayStand_7 : decode cX12_mayStand 7 = .ok (.getfield 209, 3) := by decide +kernel
theorem dX12_mayStand_10 : decode cX12_mayStand 10 = .ok (.iload_n 2, 1) := by decide +kernel
theorem dX12_mayStand_11 : decode cX12_mayStand 11 = .ok (.iaload, 1) := by decide +kernel
theorem dX12_mayStand_12 : decode cX12_mayStand 12 = .ok (.iadd, 1) := by decide +kernel
theorem dX12_mayStand_13 : decode cX12_mayStand 13 = .ok (.istore 4, 2) := by decide +kernel
theorem dX12_mayStand_15 : decode cX12_mayStand 15 = .ok (.iconst 0, 1) := by decide +kernel
theorem dX12_mayStand_16 : decode cX12_mayStand 16 = .ok (.istore 5, 2) := by decide +kernel
theorem dX12_mayStand_18 : decode cX12_mayStand 18 = .ok (.iload 5, 2) := by decide +kernel
theorem dX12_mayStand_20 : decode cX12_mayStand 20 = .ok (.iconst 4, 1) := by decide +kernel
theorem dX12_mayStand_21 : decode cX12_mayStand 21 = .ok (.if_icmp .ge 92, 3) := by decide +kernel
theorem dX12_mayStand_24 : decode cX12_mayStand 24 = .ok (.iload_n 1, 1) := by decide +kernel
theorem dX12_mayStand_25 : decode cX12_mayStand 25 = .ok (.ifCond .le 39, 3) := by decide +kernel
theorem dX12_mayStand_28 : decode cX12_mayStand 28 = .ok (.aload_n 0, 1) := by decide +kernel
theorem dX12_mayStand_29 : decode cX12_mayStand 29 = .ok (.getfield 197, 3) := by decide +kernel
theorem dX12_mayStand_32 : decode cX12_mayStand 32 = .ok (.iload_n 1, 1) := by decide +kernel
theorem dX12_mayStand_33 : decode cX12_mayStand 33 = .ok (.iconst 1, 1) := by decide +kernel
theorem dX12_mayStand_34 : decode cX12_mayStand 34 = .ok (.isub, 1) := by decide +kernel
theorem dX12_mayStand_35 : decode cX12_mayStand 35 = .ok (.iaload, 1) := by decide +kernel
theorem dX12_mayStand_36 : decode cX12_mayStand 36 = .ok (.iload 5, 2) := by decide +kernel
theorem dX12_mayStand_38 : decode cX12_mayStand 38 = .ok (.invokestatic 463, 3) := by decide +kernel
theorem dX12_mayStand_41 : decode cX12_mayStand 41 = .ok (.iconst 2, 1) := by decide +kernel
theorem dX12_mayStand_42 : decode cX12_mayStand 42 = .ok (.if_icmp .ne 22, 3) := by decide +kernel
theorem dX12_mayStand_45 : decode cX12_mayStand 45 = .ok (.aload_n 0, 1) := by decide +kernel
theorem dX12_mayStand_46 : decode cX12_mayStand 46 = .ok (.getfield 206, 3) := by decide +kernel
theorem dX12_mayStand_49 : decode cX12_mayStand 49 = .ok (.iload_n 2, 1) := by decide +kernel
theorem dX12_mayStand_50 : decode cX12_mayStand 50 = .ok (.iaload, 1) := by decide +kernel
theorem dX12_mayStand_51 : decode cX12_mayStand 51 = .ok (.iload 5, 2) := by decide +kernel
theorem dX12_mayStand_53 : decode cX12_mayStand 53 = .ok (.invokestatic 463, 3) := by decide +kernel
theorem dX12_mayStand_56 : decode cX12_mayStand 56 = .ok (.iconst 2, 1) := by decide +kernel
theorem dX12_mayStand_57 : decode cX12_mayStand 57 = .ok (.if_icmp .ge 7, 3) := by decide +kernel
theorem dX12_mayStand_60 : decode cX12_mayStand 60 = .ok (.iconst 1, 1) := by decide +kernel
theorem dX12_mayStand_61 : decode cX12_mayStand 61 = .ok (.goto 4, 3) := by decide +kernel
theorem dX12_mayStand_64 : decode cX12_mayStand 64 = .ok (.iconst 0, 1) := by decide +kernel
theorem dX12_mayStand_65 : decode cX12_mayStand 65 = .ok (.istore 6, 2) := by decide +kernel
theorem dX12_mayStand_67 : decode cX12_mayStand 67 = .ok (.iload_n 3, 1) := by decide +kernel
theorem dX12_mayStand_68 : decode cX12_mayStand 68 = .ok (.iconst 1, 1) := by decide +kernel
theorem dX12_mayStand_69 : decode cX12_mayStand 69 = .ok (.iand, 1) := by decide +kernel
theorem dX12_mayStand_70 : decode cX12_mayStand 70 = .ok (.iconst 1, 1) := by decide +kernel
theorem dX12_mayStand_71 : decode cX12_mayStand 71 = .ok (.if_icmp .ne 8, 3) := by decide +kernel
theorem dX12_mayStand_74 : decode cX12_mayStand 74 = .ok (.iload 6, 2) := by decide +kernel
theorem dX12_mayStand_76 : decode cX12_mayStand 76 = .ok (.ifCond .ne 29, 3) := by decide +kernel
theorem dX12_mayStand_79 : decode cX12_mayStand 79 = .ok (.iload_n 3, 1) := by decide +kernel
theorem dX12_mayStand_80 : decode cX12_mayStand 80 = .ok (.iconst 2, 1) := by decide +kernel
theorem dX12_mayStand_81 : decode cX12_mayStand 81 = .ok (.iand, 1) := by decide +kernel
theorem dX12_mayStand_82 : decode cX12_mayStand 82 = .ok (.iconst 2, 1) := by decide +kernel
theorem dX12_mayStand_83 : decode cX12_mayStand 83 = .ok (.if_icmp .ne 24, 3) := by decide +kernel
theorem dX12_mayStand_86 : decode cX12_mayStand 86 = .ok (.iload 4, 2) := by decide +kernel
theorem dX12_mayStand_88 : decode cX12_mayStand 88 = .ok (.iconst 4, 1) := by decide +kernel
theorem dX12_mayStand_89 : decode cX12_mayStand 89 = .ok (.iload 5, 2) := by decide +kernel
theorem dX12_mayStand_91 : decode cX12_mayStand 91 = .ok (.imul, 1) := by decide +kernel
theorem dX12_mayStand_92 : decode cX12_mayStand 92 = .ok (.ishr, 1) := by decide +kernel
theorem dX12_mayStand_93 : decode cX12_mayStand 93 = .ok (.bipush 15, 2) := by decide +kernel
theorem dX12_mayStand_95 : decode cX12_mayStand 95 = .ok (.iand, 1) := by decide +kernel
theorem dX12_mayStand_96 : decode cX12_mayStand 96 = .ok (.aload_n 0, 1) := by decide +kernel
theorem dX12_mayStand_97 : decode cX12_mayStand 97 = .ok (.getfield 122, 3) := by decide +kernel
theorem dX12_mayStand_100 : decode cX12_mayStand 100 = .ok (.iconst 4, 1) := by decide +kernel
theorem dX12_mayStand_101 : decode cX12_mayStand 101 = .ok (.iaload, 1) := by decide +kernel
theorem dX12_mayStand_102 : decode cX12_mayStand 102 = .ok (.if_icmp .le 5, 3) := by decide +kernel
theorem dX12_mayStand_105 : decode cX12_mayStand 105 = .ok (.iconst 0, 1) := by decide +kernel
theorem dX12_mayStand_106 : decode cX12_mayStand 106 = .ok (.ireturn, 1) := by decide +kernel
theorem dX12_mayStand_107 : decode cX12_mayStand 107 = .ok (.iinc 5 1, 3) := by decide +kernel
theorem dX12_mayStand_110 : decode cX12_mayStand 110 = .ok (.goto (-92), 3) := by decide +kernel
theorem dX12_mayStand_113 : decode cX12_mayStand 113 = .ok (.iconst 1, 1) := by decide +kernel
theorem dX12_mayStand_114 : decode cX12_mayStand 114 = .ok (.ireturn, 1) := by decide +kernel
theorem dX12_isFair_0 : decode cX12_isFair 0 = .ok (.bipush 9, 2) := by decide +kernel
theorem dX12_isFair_2 : decode cX12_isFair 2 = .ok (.istore_n 1, 1) := by decide +kernel
theorem dX12_isFair_3 : decode cX12_isFair 3 = .ok (.iconst 0, 1) := by decide +kernel
theorem dX12_isFair_4 : decode cX12_isFair 4 = .ok (.istore_n 2, 1) := by decide +kernel
theorem dX12_isFair_5 : decode cX12_isFair 5 = .ok (.iconst 0, 1) := by decide +kernel
theorem dX12_isFair_6 : decode cX12_isFair 6 = .ok (.istore_n 3, 1) := by decide +kernel
theorem dX12_isFair_7 : decode cX12_isFair 7 = .ok (.iload_n 3, 1) := by decide +kernel
theorem dX12_isFair_8 : decode cX12_isFair 8 = .ok (.iconst 4, 1) := by decide +kernel
theorem dX12_isFair_9 : decode cX12_isFair 9 = .ok (.if_icmp .ge 78, 3) := by decide +kernel
theorem dX12_isFair_12 : decode cX12_isFair 12 = .ok (.iconst 0, 1) := by decide +kernel
theorem dX12_isFair_13 : decode cX12_isFair 13 = .ok (.istore 4, 2) := by decide +kernel
theorem dX12_isFair_15 : decode cX12_isFair 15 = .ok (.iconst 0, 1) := by decide +kernel
theorem dX12_isFair_16 : decode cX12_isFair 16 = .ok (.istore 5, 2) := by decide +kernel
theorem dX12_isFair_18 : decode cX12_isFair 18 = .ok (.iload 5, 2) := by decide +kernel
theorem dX12_isFair_20 : decode cX12_isFair 20 = .ok (.iconst 4, 1) := by decide +kernel
theorem dX12_isFair_21 : decode cX12_isFair 21 = .ok (.if_icmp .ge 34, 3) := by decide +kernel
theorem dX12_isFair_24 : decode cX12_isFair 24 = .ok (.iload 4, 2) := by decide +kernel
theorem dX12_isFair_26 : decode cX12_isFair 26 = .ok (.aload_n 0, 1) := by decide +kernel
theorem dX12_isFair_27 : decode cX12_isFair 27 = .ok (.getfield 197, 3) := by decide +kernel
theorem dX12_isFair_30 : decode cX12_isFair 30 = .ok (.iload 5, 2) := by decide +kernel
theorem dX12_isFair_32 : decode cX12_isFair 32 = .ok (.iaload, 1) := by decide +kernel
theorem dX12_isFair_33 : decode cX12_isFair 33 = .ok (.iload_n 3, 1) := by decide +kernel
theorem dX12_isFair_34 : decode cX12_isFair 34 = .ok (.invokestatic 463, 3) := by decide +kernel
theorem dX12_isFair_37 : decode cX12_isFair 37 = .ok (.iconst 2, 1) := by decide +kernel
theorem dX12_isFair_38 : decode cX12_isFair 38 = .ok (.if_icmp .ne 7, 3) := by decide +kernel
theorem dX12_isFair_41 : decode cX12_isFair 41 = .ok (.iconst 1, 1) := by decide +kernel
theorem dX12_isFair_42 : decode cX12_isFair 42 = .ok (.goto 4, 3) := by decide +kernel
theorem dX12_isFair_45 : decode cX12_isFair 45 = .ok (.iconst 0, 1) := by decide +kernel
theorem dX12_isFair_46 : decode cX12_isFair 46 = .ok (.iadd, 1) := by decide +kernel
theorem dX12_isFair_47 : decode cX12_isFair 47 = .ok (.istore 4, 2) := by decide +kernel
theorem dX12_isFair_49 : decode cX12_isFair 49 = .ok (.iinc 5 1, 3) := by decide +kernel
theorem dX12_isFair_52 : decode cX12_isFair 52 = .ok (.goto (-34), 3) := by decide +kernel
theorem dX12_isFair_55 : decode cX12_isFair 55 = .ok (.iload 4, 2) := by decide +kernel
theorem dX12_isFair_57 : decode cX12_isFair 57 = .ok (.iload_n 1, 1) := by decide +kernel
theorem dX12_isFair_58 : decode cX12_isFair 58 = .ok (.if_icmp .ge 8, 3) := by decide +kernel
theorem dX12_isFair_61 : decode cX12_isFair 61 = .ok (.iload 4, 2) := by decide +kernel
theorem dX12_isFair_63 : decode cX12_isFair 63 = .ok (.goto 4, 3) := by decide +kernel
theorem dX12_isFair_66 : decode cX12_isFair 66 = .ok (.iload_n 1, 1) := by decide +kernel
theorem dX12_isFair_67 : decode cX12_isFair 67 = .ok (.istore_n 1, 1) := by decide +kernel
theorem dX12_isFair_68 : decode cX12_isFair 68 = .ok (.iload 4, 2) := by decide +kernel
theorem dX12_isFair_70 : decode cX12_isFair 70 = .ok (.iload_n 2, 1) := by decide +kernel
theorem dX12_isFair_71 : decode cX12_isFair 71 = .ok (.if_icmp .le 8, 3) := by decide +kernel
theorem dX12_isFair_74 : decode cX12_isFair 74 = .ok (.iload 4, 2) := by decide +kernel
theorem dX12_isFair_76 : decode cX12_isFair 76 = .ok (.goto 4, 3) := by decide +kernel
theorem dX12_isFair_79 : decode cX12_isFair 79 = .ok (.iload_n 2, 1) := by decide +kernel
theorem dX12_isFair_80 : decode cX12_isFair 80 = .ok (.istore_n 2, 1) := by decide +kernel
theorem dX12_isFair_81 : decode cX12_isFair 81 = .ok (.iinc 3 1, 3) := by decide +kernel
theorem dX12_isFair_84 : decode cX12_isFair 84 = .ok (.goto (-77), 3) := by decide +kernel
theorem dX12_isFair_87 : decode cX12_isFair 87 = .ok (.iload_n 2, 1) := by decide +kernel
theorem dX12_isFair_88 : decode cX12_isFair 88 = .ok (.iload_n 1, 1) := by decide +kernel
theorem dX12_isFair_89 : decode cX12_isFair 89 = .ok (.isub, 1) := by decide +kernel
theorem dX12_isFair_90 : decode cX12_isFair 90 = .ok (.iconst 2, 1) := by decide +kernel
theorem dX12_isFair_91 : decode cX12_isFair 91 = .ok (.if_icmp .ge 7, 3) := by decide +kernel
theorem dX12_isFair_94 : decode cX12_isFair 94 = .ok (.iconst 1, 1) := by decide +kernel
theorem dX12_isFair_95 : decode cX12_isFair 95 = .ok (.goto 4, 3) := by decide +kernel
theorem dX12_isFair_98 : decode cX12_isFair 98 = .ok (.iconst 0, 1) := by decide +kernel
theorem dX12_isFair_99 : decode cX12_isFair 99 = .ok (.ireturn, 1) := by decide +kernel
theorem dX12_brokenBy_0 : decode cX12_brokenBy 0 = .ok (.iconst 0, 1) := by decide +kernel
theorem dX12_brokenBy_1 : decode cX12_brokenBy 1 = .ok (.istore_n 3, 1) := by decide +kernel
theorem dX12_brokenBy_2 : decode cX12_brokenBy 2 = .ok (.iconst 0, 1) := by decide +kernel
theorem dX12_brokenBy_3 : decode cX12_brokenBy 3 = .ok (.istore 4, 2) := by decide +kernel
theorem dX12_brokenBy_5 : decode cX12_brokenBy 5 = .ok (.iload 4, 2) := by decide +kernel
theorem dX12_brokenBy_7 : decode cX12_brokenBy 7 = .ok (.iconst 4, 1) := by decide +kernel
theorem dX12_brokenBy_8 : decode cX12_brokenBy 8 = .ok (.if_icmp .ge 56, 3) := by decide +kernel
theorem dX12_brokenBy_11 : decode cX12_brokenBy 11 = .ok (.iload_n 2, 1) := by decide +kernel
theorem dX12_brokenBy_12 : decode cX12_brokenBy 12 = .ok (.iload 4, 2) := by decide +kernel
theorem dX12_brokenBy_14 : decode cX12_brokenBy 14 = .ok (.invokestatic 463, 3) := by decide +kernel
theorem dX12_brokenBy_17 : decode cX12_brokenBy 17 = .ok (.istore 5, 2) := by decide +kernel
theorem dX12_brokenBy_19 : decode cX12_brokenBy 19 = .ok (.iload_n 3, 1) := by decide +kernel
theorem dX12_brokenBy_20 : decode cX12_brokenBy 20 = .ok (.iload 5, 2) := by decide +kernel
theorem dX12_brokenBy_22 : decode cX12_brokenBy 22 = .ok (.iconst 3, 1) := by decide +kernel
theorem dX12_brokenBy_23 : decode cX12_brokenBy 23 = .ok (.if_icmp .ge 32, 3) := by decide +kernel
theorem dX12_brokenBy_26 : decode cX12_brokenBy 26 = .ok (.aload_n 0, 1) := by decide +kernel
theorem dX12_brokenBy_27 : decode cX12_brokenBy 27 = .ok (.getfield 191, 3) := by decide +kernel
theorem dX12_brokenBy_30 : decode cX12_brokenBy 30 = .ok (.bipush 12, 2) := by decide +kernel
theorem dX12_brokenBy_32 : decode cX12_brokenBy 32 = .ok (.aload_n 0, 1) := by decide +kernel
theorem dX12_brokenBy_33 : decode cX12_brokenBy 33 = .ok (.getfield 194, 3) := by decide +kernel
theorem dX12_brokenBy_36 : decode cX12_brokenBy 36 = .ok (.iload 4, 2) := by decide +kernel
theorem dX12_brokenBy_38 : decode cX12_brokenBy 38 = .ok (.iaload, 1) := by decide +kernel
theorem dX12_brokenBy_39 : decode cX12_brokenBy 39 = .ok (.imul, 1) := by decide +kernel
theorem dX12_brokenBy_40 : decode cX12_brokenBy 40 = .ok (.iconst 3, 1) := by decide +kernel
theorem dX12_brokenBy_41 : decode cX12_brokenBy 41 = .ok (.iload_n 1, 1) := by decide +kernel
theorem dX12_brokenBy_42 : decode cX12_brokenBy 42 = .ok (.imul, 1) := by decide +kernel
theorem dX12_brokenBy_43 : decode cX12_brokenBy 43 = .ok (.iadd, 1) := by decide +kernel
theorem dX12_brokenBy_44 : decode cX12_brokenBy 44 = .ok (.iload 5, 2) := by decide +kernel
theorem dX12_brokenBy_46 : decode cX12_brokenBy 46 = .ok (.iadd, 1) := by decide +kernel
theorem dX12_brokenBy_47 : decode cX12_brokenBy 47 = .ok (.baload, 1) := by decide +kernel
theorem dX12_brokenBy_48 : decode cX12_brokenBy 48 = .ok (.ifCond .eq 7, 3) := by decide +kernel
theorem dX12_brokenBy_51 : decode cX12_brokenBy 51 = .ok (.iconst 1, 1) := by decide +kernel
theorem dX12_brokenBy_52 : decode cX12_brokenBy 52 = .ok (.goto 4, 3) := by decide +kernel
theorem dX12_brokenBy_55 : decode cX12_brokenBy 55 = .ok (.iconst 0, 1) := by decide +kernel
theorem dX12_brokenBy_56 : decode cX12_brokenBy 56 = .ok (.iadd, 1) := by decide +kernel
theorem dX12_brokenBy_57 : decode cX12_brokenBy 57 = .ok (.istore_n 3, 1) := by decide +kernel
theorem dX12_brokenBy_58 : decode cX12_brokenBy 58 = .ok (.iinc 4 1, 3) := by decide +kernel
theorem dX12_brokenBy_61 : decode cX12_brokenBy 61 = .ok (.goto (-56), 3) := by decide +kernel
theorem dX12_brokenBy_64 : decode cX12_brokenBy 64 = .ok (.iload_n 3, 1) := by decide +kernel
theorem dX12_brokenBy_65 : decode cX12_brokenBy 65 = .ok (.ireturn, 1) := by decide +kernel
theorem dX12_findShifts_0 : decode cX12_findShifts 0 = .ok (.aload_n 0, 1) := by decide +kernel
theorem dX12_findShifts_1 : decode cX12_findShifts 1 = .ok (.getfield 218, 3) := by decide +kernel
theorem dX12_findShifts_4 : decode cX12_findShifts 4 = .ok (.iload_n 1, 1) := by decide +kernel
theorem dX12_findShifts_5 : decode cX12_findShifts 5 = .ok (.if_icmp .ne 21, 3) := by decide +kernel
theorem dX12_findShifts_8 : decode cX12_findShifts 8 = .ok (.aload_n 0, 1) := by decide +kernel
theorem dX12_findShifts_9 : decode cX12_findShifts 9 = .ok (.getfield 472, 3) := by decide +kernel
theorem dX12_findShifts_12 : decode cX12_findShifts 12 = .ok (.iload_n 2, 1) := by decide +kernel
theorem dX12_findShifts_13 : decode cX12_findShifts 13 = .ok (.if_icmp .ne 13, 3) := by decide +kernel
theorem dX12_findShifts_16 : decode cX12_findShifts 16 = .ok (.aload_n 0, 1) := by decide +kernel
theorem dX12_findShifts_17 : decode cX12_findShifts 17 = .ok (.iload_n 1, 1) := by decide +kernel
theorem dX12_findShifts_18 : decode cX12_findShifts 18 = .ok (.invokevirtual 475, 3) := by decide +kernel
theorem dX12_findShifts_21 : decode cX12_findShifts 21 = .ok (.aload_n 0, 1) := by decide +kernel
theorem dX12_findShifts_22 : decode cX12_findShifts 22 = .ok (.getfield 478, 3) := by decide +kernel
theorem dX12_findShifts_25 : decode cX12_findShifts 25 = .ok (.ireturn, 1) := by decide +kernel
theorem dX12_findShifts_26 : decode cX12_findShifts 26 = .ok (.aload_n 0, 1) := by decide +kernel
theorem dX12_findShifts_27 : decode cX12_findShifts 27 = .ok (.aload_n 0, 1) := by decide +kernel
theorem dX12_findShifts_28 : decode cX12_findShifts 28 = .ok (.iload_n 1, 1) := by decide +kernel
theorem dX12_findShifts_29 : decode cX12_findShifts 29 = .ok (.iload_n 2, 1) := by decide +kernel
theorem dX12_findShifts_30 : decode cX12_findShifts 30 = .ok (.invokevirtual 481, 3) := by decide +kernel
theorem dX12_findShifts_33 : decode cX12_findShifts 33 = .ok (.putfield 478, 3) := by decide +kernel
theorem dX12_findShifts_36 : decode cX12_findShifts 36 = .ok (.aload_n 0, 1) := by decide +kernel
theorem dX12_findShifts_37 : decode cX12_findShifts 37 = .ok (.iload_n 1, 1) := by decide +kernel
theorem dX12_findShifts_38 : decode cX12_findShifts 38 = .ok (.putfield 218, 3) := by decide +kernel
theorem dX12_findShifts_41 : decode cX12_findShifts 41 = .ok (.aload_n 0, 1) := by decide +kernel
theorem dX12_findShifts_42 : decode cX12_findShifts 42 = .ok (.iload_n 2, 1) := by decide +kernel
theorem dX12_findShifts_43 : decode cX12_findShifts 43 = .ok (.putfield 472, 3) := by decide +kernel
theorem dX12_findShifts_46 : decode cX12_findShifts 46 = .ok (.aload_n 0, 1) := by decide +kernel
theorem dX12_findShifts_47 : decode cX12_findShifts 47 = .ok (.getfield 478, 3) := by decide +kernel
theorem dX12_findShifts_50 : decode cX12_findShifts 50 = .ok (.ireturn, 1) := by decide +kernel
theorem dX12_seekShifts_0 : decode cX12_seekShifts 0 = .ok (.aload_n 0, 1) := by decide +kernel
theorem dX12_seekShifts_1 : decode cX12_seekShifts 1 = .ok (.iload_n 1, 1) := by decide +kernel
theorem dX12_seekShifts_2 : decode cX12_seekShifts 2 = .ok (.invokevirtual 475, 3) := by decide +kernel
theorem dX12_seekShifts_5 : decode cX12_seekShifts 5 = .ok (.iconst (-1), 1) := by decide +kernel
theorem dX12_seekShifts_6 : decode cX12_seekShifts 6 = .ok (.istore_n 3, 1) := by decide +kernel
theorem dX12_seekShifts_7 : decode cX12_seekShifts 7 = .ok (.aload_n 0, 1) := by decide +kernel
theorem dX12_seekShifts_8 : decode cX12_seekShifts 8 = .ok (.getfield 460, 3) := by decide +kernel
theorem dX12_seekShifts_11 : decode cX12_seekShifts 11 = .ok (.iconst 4, 1) := by decide +kernel
theorem dX12_seekShifts_12 : decode cX12_seekShifts 12 = .ok (.if_icmp .ge 5, 3) := by decide +kernel
theorem dX12_seekShifts_15 : decode cX12_seekShifts 15 = .ok (.iload_n 3, 1) := by decide +kernel
theorem dX12_seekShifts_16 : decode cX12_seekShifts 16 = .ok (.ireturn, 1) := by decide +kernel
theorem dX12_seekShifts_17 : decode cX12_seekShifts 17 = .ok (.aload_n 0, 1) := by decide +kernel
theorem dX12_seekShifts_18 : decode cX12_seekShifts 18 = .ok (.invokevirtual 484, 3) := by decide +kernel
theorem dX12_seekShifts_21 : decode cX12_seekShifts 21 = .ok (.iconst 0, 1) := by decide +kernel
theorem dX12_seekShifts_22 : decode cX12_seekShifts 22 = .ok (.istore 4, 2) := by decide +kernel
theorem dX12_seekShifts_24 : decode cX12_seekShifts 24 = .ok (.aload_n 0, 1) := by decide +kernel
theorem dX12_seekShifts_25 : decode cX12_seekShifts 25 = .ok (.getfield 212, 3) := by decide +kernel
theorem dX12_seekShifts_28 : decode cX12_seekShifts 28 = .ok (.iconst 0, 1) := by decide +kernel
theorem dX12_seekShifts_29 : decode cX12_seekShifts 29 = .ok (.iconst (-1), 1) := by decide +kernel
theorem dX12_seekShifts_30 : decode cX12_seekShifts 30 = .ok (.iastore, 1) := by decide +kernel
theorem dX12_seekShifts_31 : decode cX12_seekShifts 31 = .ok (.aload_n 0, 1) := by decide +kernel
theorem dX12_seekShifts_32 : decode cX12_seekShifts 32 = .ok (.getfield 200, 3) := by decide +kernel
theorem dX12_seekShifts_35 : decode cX12_seekShifts 35 = .ok (.iconst 0, 1) := by decide +kernel
theorem dX12_seekShifts_36 : decode cX12_seekShifts 36 = .ok (.iconst 0, 1) := by decide +kernel
theorem dX12_seekShifts_37 : decode cX12_seekShifts 37 = .ok (.iastore, 1) := by decide +kernel
theorem dX12_seekShifts_38 : decode cX12_seekShifts 38 = .ok (.aload_n 0, 1) := by decide +kernel
theorem dX12_seekShifts_39 : decode cX12_seekShifts 39 = .ok (.getfield 215, 3) := by decide +kernel
theorem dX12_seekShifts_42 : decode cX12_seekShifts 42 = .ok (.iconst 0, 1) := by decide +kernel
theorem dX12_seekShifts_43 : decode cX12_seekShifts 43 = .ok (.iconst 0, 1) := by decide +kernel
theorem dX12_seekShifts_44 : decode cX12_seekShifts 44 = .ok (.iastore, 1) := by decide +kernel
theorem dX12_seekShifts_45 : decode cX12_seekShifts 45 = .ok (.iload 4, 2) := by decide +kernel
theorem dX12_seekShifts_47 : decode cX12_seekShifts 47 = .ok (.ifCond .lt 225, 3) := by decide +kernel
theorem dX12_seekShifts_50 : decode cX12_seekShifts 50 = .ok (.aload_n 0, 1) := by decide +kernel
theorem dX12_seekShifts_51 : decode cX12_seekShifts 51 = .ok (.getfield 212, 3) := by decide +kernel
theorem dX12_seekShifts_54 : decode cX12_seekShifts 54 = .ok (.iload 4, 2) := by decide +kernel
theorem dX12_seekShifts_56 : decode cX12_seekShifts 56 = .ok (.iaload, 1) := by decide +kernel
theorem dX12_seekShifts_57 : decode cX12_seekShifts 57 = .ok (.iconst 1, 1) := by decide +kernel
theorem dX12_seekShifts_58 : decode cX12_seekShifts 58 = .ok (.iadd, 1) := by decide +kernel
theorem dX12_seekShifts_59 : decode cX12_seekShifts 59 = .ok (.istore 5, 2) := by decide +kernel
theorem dX12_seekShifts_61 : decode cX12_seekShifts 61 = .ok (.iload 5, 2) := by decide +kernel
theorem dX12_seekShifts_63 : decode cX12_seekShifts 63 = .ok (.aload_n 0, 1) := by decide +kernel
theorem dX12_seekShifts_64 : decode cX12_seekShifts 64 = .ok (.getfield 466, 3) := by decide +kernel
theorem dX12_seekShifts_67 : decode cX12_seekShifts 67 = .ok (.if_icmp .ge 21, 3) := by decide +kernel
theorem dX12_seekShifts_70 : decode cX12_seekShifts 70 = .ok (.aload_n 0, 1) := by decide +kernel
theorem dX12_seekShifts_71 : decode cX12_seekShifts 71 = .ok (.iload 4, 2) := by decide +kernel
theorem dX12_seekShifts_73 : decode cX12_seekShifts 73 = .ok (.iload 5, 2) := by decide +kernel
theorem dX12_seekShifts_75 : decode cX12_seekShifts 75 = .ok (.iload_n 2, 1) := by decide +kernel
theorem dX12_seekShifts_76 : decode cX12_seekShifts 76 = .ok (.invokevirtual 487, 3) := by decide +kernel
theorem dX12_seekShifts_79 : decode cX12_seekShifts 79 = .ok (.ifCond .ne 9, 3) := by decide +kernel
theorem dX12_seekShifts_82 : decode cX12_seekShifts 82 = .ok (.iinc 5 1, 3) := by decide +kernel
theorem dX12_seekShifts_85 : decode cX12_seekShifts 85 = .ok (.goto (-24), 3) := by decide +kernel
theorem dX12_seekShifts_88 : decode cX12_seekShifts 88 = .ok (.aload_n 0, 1) := by decide +kernel
theorem dX12_seekShifts_89 : decode cX12_seekShifts 89 = .ok (.getfield 212, 3) := by decide +kernel
theorem dX12_seekShifts_92 : decode cX12_seekShifts 92 = .ok (.iload 4, 2) := by decide +kernel
theorem dX12_seekShifts_94 : decode cX12_seekShifts 94 = .ok (.iload 5, 2) := by decide +kernel
theorem dX12_seekShifts_96 : decode cX12_seekShifts 96 = .ok (.iastore, 1) := by decide +kernel
theorem dX12_seekShifts_97 : decode cX12_seekShifts 97 = .ok (.iload 5, 2) := by decide +kernel
theorem dX12_seekShifts_99 : decode cX12_seekShifts 99 = .ok (.aload_n 0, 1) := by decide +kernel
theorem dX12_seekShifts_100 : decode cX12_seekShifts 100 = .ok (.getfield 466, 3) := by decide +kernel
theorem dX12_seekShifts_103 : decode cX12_seekShifts 103 = .ok (.if_icmp .ne 9, 3) := by decide +kernel
theorem dX12_seekShifts_106 : decode cX12_seekShifts 106 = .ok (.iinc 4 (-1), 3) := by decide +kernel
theorem dX12_seekShifts_109 : decode cX12_seekShifts 109 = .ok (.goto (-64), 3) := by decide +kernel
theorem dX12_seekShifts_112 : decode cX12_seekShifts 112 = .ok (.aload_n 0, 1) := by decide +kernel
theorem dX12_seekShifts_113 : decode cX12_seekShifts 113 = .ok (.getfield 197, 3) := by decide +kernel
theorem dX12_seekShifts_116 : decode cX12_seekShifts 116 = .ok (.iload 4, 2) := by decide +kernel
theorem dX12_seekShifts_118 : decode cX12_seekShifts 118 = .ok (.aload_n 0, 1) := by decide +kernel
theorem dX12_seekShifts_119 : decode cX12_seekShifts 119 = .ok (.getfield 206, 3) := by decide +kernel
theorem dX12_seekShifts_122 : decode cX12_seekShifts 122 = .ok (.iload 5, 2) := by decide +kernel
theorem dX12_seekShifts_124 : decode cX12_seekShifts 124 = .ok (.iaload, 1) := by decide +kernel
theorem dX12_seekShifts_125 : decode cX12_seekShifts 125 = .ok (.iastore, 1) := by decide +kernel
theorem dX12_seekShifts_126 : decode cX12_seekShifts 126 = .ok (.aload_n 0, 1) := by decide +kernel
theorem dX12_seekShifts_127 : decode cX12_seekShifts 127 = .ok (.getfield 200, 3) := by decide +kernel
theorem dX12_seekShifts_130 : decode cX12_seekShifts 130 = .ok (.iload 4, 2) := by decide +kernel
theorem dX12_seekShifts_132 : decode cX12_seekShifts 132 = .ok (.iconst 1, 1) := by decide +kernel
theorem dX12_seekShifts_133 : decode cX12_seekShifts 133 = .ok (.iadd, 1) := by decide +kernel
theorem dX12_seekShifts_134 : decode cX12_seekShifts 134 = .ok (.aload_n 0, 1) := by decide +kernel
theorem dX12_seekShifts_135 : decode cX12_seekShifts 135 = .ok (.getfield 200, 3) := by decide +kernel
theorem dX12_seekShifts_138 : decode cX12_seekShifts 138 = .ok (.iload 4, 2) := by decide +kernel
theorem dX12_seekShifts_140 : decode cX12_seekShifts 140 = .ok (.iaload, 1) := by decide +kernel
theorem dX12_seekShifts_141 : decode cX12_seekShifts 141 = .ok (.aload_n 0, 1) := by decide +kernel
theorem dX12_seekShifts_142 : decode cX12_seekShifts 142 = .ok (.iload 4, 2) := by decide +kernel
theorem dX12_seekShifts_144 : decode cX12_seekShifts 144 = .ok (.aload_n 0, 1) := by decide +kernel
theorem dX12_seekShifts_145 : decode cX12_seekShifts 145 = .ok (.getfield 206, 3) := by decide +kernel
theorem dX12_seekShifts_148 : decode cX12_seekShifts 148 = .ok (.iload 5, 2) := by decide +kernel
theorem dX12_seekShifts_150 : decode cX12_seekShifts 150 = .ok (.iaload, 1) := by decide +kernel
theorem dX12_seekShifts_151 : decode cX12_seekShifts 151 = .ok (.invokevirtual 490, 3) := by decide +kernel
theorem dX12_seekShifts_154 : decode cX12_seekShifts 154 = .ok (.iadd, 1) := by decide +kernel
theorem dX12_seekShifts_155 : decode cX12_seekShifts 155 = .ok (.iastore, 1) := by decide +kernel
theorem dX12_seekShifts_156 : decode cX12_seekShifts 156 = .ok (.aload_n 0, 1) := by decide +kernel
theorem dX12_seekShifts_157 : decode cX12_seekShifts 157 = .ok (.getfield 215, 3) := by decide +kernel
theorem dX12_seekShifts_160 : decode cX12_seekShifts 160 = .ok (.iload 4, 2) := by decide +kernel
theorem dX12_seekShifts_162 : decode cX12_seekShifts 162 = .ok (.iconst 1, 1) := by decide +kernel
theorem dX12_seekShifts_163 : decode cX12_seekShifts 163 = .ok (.iadd, 1) := by decide +kernel
theorem dX12_seekShifts_164 : decode cX12_seekShifts 164 = .ok (.aload_n 0, 1) := by decide +kernel
theorem dX12_seekShifts_165 : decode cX12_seekShifts 165 = .ok (.getfield 215, 3) := by decide +kernel
theorem dX12_seekShifts_168 : decode cX12_seekShifts 168 = .ok (.iload 4, 2) := by decide +kernel
theorem dX12_seekShifts_170 : decode cX12_seekShifts 170 = .ok (.iaload, 1) := by decide +kernel
theorem dX12_seekShifts_171 : decode cX12_seekShifts 171 = .ok (.aload_n 0, 1) := by decide +kernel
theorem dX12_seekShifts_172 : decode cX12_seekShifts 172 = .ok (.getfield 209, 3) := by decide +kernel
theorem dX12_seekShifts_175 : decode cX12_seekShifts 175 = .ok (.iload 5, 2) := by decide +kernel
theorem dX12_seekShifts_177 : decode cX12_seekShifts 177 = .ok (.iaload, 1) := by decide +kernel
theorem dX12_seekShifts_178 : decode cX12_seekShifts 178 = .ok (.iadd, 1) := by decide +kernel
theorem dX12_seekShifts_179 : decode cX12_seekShifts 179 = .ok (.iastore, 1) := by decide +kernel
theorem dX12_seekShifts_180 : decode cX12_seekShifts 180 = .ok (.iload_n 3, 1) := by decide +kernel
theorem dX12_seekShifts_181 : decode cX12_seekShifts 181 = .ok (.ifCond .lt 19, 3) := by decide +kernel
theorem dX12_seekShifts_184 : decode cX12_seekShifts 184 = .ok (.aload_n 0, 1) := by decide +kernel
theorem dX12_seekShifts_185 : decode cX12_seekShifts 185 = .ok (.getfield 200, 3) := by decide +kernel
theorem dX12_seekShifts_188 : decode cX12_seekShifts 188 = .ok (.iload 4, 2) := by decide +kernel
theorem dX12_seekShifts_190 : decode cX12_seekShifts 190 = .ok (.iconst 1, 1) := by decide +kernel
theorem dX12_seekShifts_191 : decode cX12_seekShifts 191 = .ok (.iadd, 1) := by decide +kernel
theorem dX12_seekShifts_192 : decode cX12_seekShifts 192 = .ok (.iaload, 1) := by decide +kernel
theorem dX12_seekShifts_193 : decode cX12_seekShifts 193 = .ok (.iload_n 3, 1) := by decide +kernel
theorem dX12_seekShifts_194 : decode cX12_seekShifts 194 = .ok (.if_icmp .lt 6, 3) := by decide +kernel
theorem dX12_seekShifts_197 : decode cX12_seekShifts 197 = .ok (.goto (-152), 3) := by decide +kernel
theorem dX12_seekShifts_200 : decode cX12_seekShifts 200 = .ok (.iload 4, 2) := by decide +kernel
theorem dX12_seekShifts_202 : decode cX12_seekShifts 202 = .ok (.iconst 3, 1) := by decide +kernel
theorem dX12_seekShifts_203 : decode cX12_seekShifts 203 = .ok (.if_icmp .ge 17, 3) := by decide +kernel
theorem dX12_seekShifts_206 : decode cX12_seekShifts 206 = .ok (.iinc 4 1, 3) := by decide +kernel
theorem dX12_seekShifts_209 : decode cX12_seekShifts 209 = .ok (.aload_n 0, 1) := by decide +kernel
theorem dX12_seekShifts_210 : decode cX12_seekShifts 210 = .ok (.getfield 212, 3) := by decide +kernel
theorem dX12_seekShifts_213 : decode cX12_seekShifts 213 = .ok (.iload 4, 2) := by decide +kernel
theorem dX12_seekShifts_215 : decode cX12_seekShifts 215 = .ok (.iconst (-1), 1) := by decide +kernel
theorem dX12_seekShifts_216 : decode cX12_seekShifts 216 = .ok (.iastore, 1) := by decide +kernel
theorem dX12_seekShifts_217 : decode cX12_seekShifts 217 = .ok (.goto 52, 3) := by decide +kernel
theorem dX12_seekShifts_220 : decode cX12_seekShifts 220 = .ok (.iload_n 2, 1) := by decide +kernel
theorem dX12_seekShifts_221 : decode cX12_seekShifts 221 = .ok (.iconst 4, 1) := by decide +kernel
theorem dX12_seekShifts_222 : decode cX12_seekShifts 222 = .ok (.iand, 1) := by decide +kernel
theorem dX12_seekShifts_223 : decode cX12_seekShifts 223 = .ok (.ifCond .eq 10, 3) := by decide +kernel
theorem dX12_seekShifts_226 : decode cX12_seekShifts 226 = .ok (.aload_n 0, 1) := by decide +kernel
theorem dX12_seekShifts_227 : decode cX12_seekShifts 227 = .ok (.invokevirtual 493, 3) := by decide +kernel
theorem dX12_seekShifts_230 : decode cX12_seekShifts 230 = .ok (.ifCond .eq 39, 3) := by decide +kernel
theorem dX12_seekShifts_233 : decode cX12_seekShifts 233 = .ok (.aload_n 0, 1) := by decide +kernel
theorem dX12_seekShifts_234 : decode cX12_seekShifts 234 = .ok (.getfield 200, 3) := by decide +kernel
theorem dX12_seekShifts_237 : decode cX12_seekShifts 237 = .ok (.iconst 4, 1) := by decide +kernel
theorem dX12_seekShifts_238 : decode cX12_seekShifts 238 = .ok (.iaload, 1) := by decide +kernel
theorem dX12_seekShifts_239 : decode cX12_seekShifts 239 = .ok (.istore_n 3, 1) := by decide +kernel
theorem dX12_seekShifts_240 : decode cX12_seekShifts 240 = .ok (.iconst 0, 1) := by decide +kernel
theorem dX12_seekShifts_241 : decode cX12_seekShifts 241 = .ok (.istore 6, 2) := by decide +kernel
theorem dX12_seekShifts_243 : decode cX12_seekShifts 243 = .ok (.iload 6, 2) := by decide +kernel
theorem dX12_seekShifts_245 : decode cX12_seekShifts 245 = .ok (.iconst 4, 1) := by decide +kernel
theorem dX12_seekShifts_246 : decode cX12_seekShifts 246 = .ok (.if_icmp .ge 23, 3) := by decide +kernel
theorem dX12_seekShifts_249 : decode cX12_seekShifts 249 = .ok (.aload_n 0, 1) := by decide +kernel
theorem dX12_seekShifts_250 : decode cX12_seekShifts 250 = .ok (.getfield 203, 3) := by decide +kernel
theorem dX12_seekShifts_253 : decode cX12_seekShifts 253 = .ok (.iload 6, 2) := by decide +kernel
theorem dX12_seekShifts_255 : decode cX12_seekShifts 255 = .ok (.aload_n 0, 1) := by decide +kernel
theorem dX12_seekShifts_256 : decode cX12_seekShifts 256 = .ok (.getfield 197, 3) := by decide +kernel
theorem dX12_seekShifts_259 : decode cX12_seekShifts 259 = .ok (.iload 6, 2) := by decide +kernel
theorem dX12_seekShifts_261 : decode cX12_seekShifts 261 = .ok (.iaload, 1) := by decide +kernel
theorem dX12_seekShifts_262 : decode cX12_seekShifts 262 = .ok (.iastore, 1) := by decide +kernel
theorem dX12_seekShifts_263 : decode cX12_seekShifts 263 = .ok (.iinc 6 1, 3) := by decide +kernel
theorem dX12_seekShifts_266 : decode cX12_seekShifts 266 = .ok (.goto (-23), 3) := by decide +kernel
theorem dX12_seekShifts_269 : decode cX12_seekShifts 269 = .ok (.goto (-224), 3) := by decide +kernel
theorem dX12_seekShifts_272 : decode cX12_seekShifts 272 = .ok (.iload_n 3, 1) := by decide +kernel
theorem dX12_seekShifts_273 : decode cX12_seekShifts 273 = .ok (.ireturn, 1) := by decide +kernel
theorem dX12_shifts_0 : decode cX12_shifts 0 = .ok (.iload_n 1, 1) := by decide +kernel
theorem dX12_shifts_1 : decode cX12_shifts 1 = .ok (.invokestatic 280, 3) := by decide +kernel
theorem dX12_shifts_4 : decode cX12_shifts 4 = .ok (.ifCond .ne 9, 3) := by decide +kernel
theorem dX12_shifts_7 : decode cX12_shifts 7 = .ok (.aload_n 0, 1) := by decide +kernel
theorem dX12_shifts_8 : decode cX12_shifts 8 = .ok (.iconst (-1), 1) := by decide +kernel
theorem dX12_shifts_9 : decode cX12_shifts 9 = .ok (.invokevirtual 269, 3) := by decide +kernel
theorem dX12_shifts_12 : decode cX12_shifts 12 = .ok (.ireturn, 1) := by decide +kernel
theorem dX12_shifts_13 : decode cX12_shifts 13 = .ok (.iload_n 2, 1) := by decide +kernel
theorem dX12_shifts_14 : decode cX12_shifts 14 = .ok (.iconst 0, 1) := by decide +kernel
theorem dX12_shifts_15 : decode cX12_shifts 15 = .ok (.bipush 7, 2) := by decide +kernel
theorem dX12_shifts_17 : decode cX12_shifts 17 = .ok (.invokestatic 262, 3) := by decide +kernel
theorem dX12_shifts_20 : decode cX12_shifts 20 = .ok (.ifCond .ne 10, 3) := by decide +kernel
theorem dX12_shifts_23 : decode cX12_shifts 23 = .ok (.aload_n 0, 1) := by decide +kernel
theorem dX12_shifts_24 : decode cX12_shifts 24 = .ok (.bipush (-2), 2) := by decide +kernel
theorem dX12_shifts_26 : decode cX12_shifts 26 = .ok (.invokevirtual 269, 3) := by decide +kernel
theorem dX12_shifts_29 : decode cX12_shifts 29 = .ok (.ireturn, 1) := by decide +kernel
theorem dX12_shifts_30 : decode cX12_shifts 30 = .ok (.aload_n 0, 1) := by decide +kernel
theorem dX12_shifts_31 : decode cX12_shifts 31 = .ok (.iload_n 1, 1) := by decide +kernel
theorem dX12_shifts_32 : decode cX12_shifts 32 = .ok (.iload_n 2, 1) := by decide +kernel
theorem dX12_shifts_33 : decode cX12_shifts 33 = .ok (.invokevirtual 496, 3) := by decide +kernel
theorem dX12_shifts_36 : decode cX12_shifts 36 = .ok (.istore_n 3, 1) := by decide +kernel
theorem dX12_shifts_37 : decode cX12_shifts 37 = .ok (.iload_n 3, 1) := by decide +kernel
theorem dX12_shifts_38 : decode cX12_shifts 38 = .ok (.ifCond .ge 8, 3) := by decide +kernel
theorem dX12_shifts_41 : decode cX12_shifts 41 = .ok (.bipush (-9), 2) := by decide +kernel
theorem dX12_shifts_43 : decode cX12_shifts 43 = .ok (.goto 4, 3) := by decide +kernel
theorem dX12_shifts_46 : decode cX12_shifts 46 = .ok (.iload_n 3, 1) := by decide +kernel
theorem dX12_shifts_47 : decode cX12_shifts 47 = .ok (.ireturn, 1) := by decide +kernel
theorem dX12_shiftOf_0 : decode cX12_shiftOf 0 = .ok (.iload_n 1, 1) := by decide +kernel
theorem dX12_shiftOf_1 : decode cX12_shiftOf 1 = .ok (.invokestatic 280, 3) := by decide +kernel
theorem dX12_shiftOf_4 : decode cX12_shiftOf 4 = .ok (.ifCond .eq 11, 3) := by decide +kernel
theorem dX12_shiftOf_7 : decode cX12_shiftOf 7 = .ok (.aload_n 0, 1) := by decide +kernel
theorem dX12_shiftOf_8 : decode cX12_shiftOf 8 = .ok (.iload_n 3, 1) := by decide +kernel
theorem dX12_shiftOf_9 : decode cX12_shiftOf 9 = .ok (.invokevirtual 284, 3) := by decide +kernel
theorem dX12_shiftOf_12 : decode cX12_shiftOf 12 = .ok (.ifCond .ne 9, 3) := by decide +kernel
theorem dX12_shiftOf_15 : decode cX12_shiftOf 15 = .ok (.aload_n 0, 1) := by decide +kernel
theorem dX12_shiftOf_16 : decode cX12_shiftOf 16 = .ok (.iconst (-1), 1) := by decide +kernel
theorem dX12_shiftOf_17 : decode cX12_shiftOf 17 = .ok (.invokevirtual 269, 3) := by decide +kernel
theorem dX12_shiftOf_20 : decode cX12_shiftOf 20 = .ok (.ireturn, 1) := by decide +kernel
theorem dX12_shiftOf_21 : decode cX12_shiftOf 21 = .ok (.iload_n 2, 1) := by decide +kernel
theorem dX12_shiftOf_22 : decode cX12_shiftOf 22 = .ok (.iconst 0, 1) := by decide +kernel
theorem dX12_shiftOf_23 : decode cX12_shiftOf 23 = .ok (.bipush 7, 2) := by decide +kernel
theorem dX12_shiftOf_25 : decode cX12_shiftOf 25 = .ok (.invokestatic 262, 3) := by decide +kernel
theorem dX12_shiftOf_28 : decode cX12_shiftOf 28 = .ok (.ifCond .ne 10, 3) := by decide +kernel
theorem dX12_shiftOf_31 : decode cX12_shiftOf 31 = .ok (.aload_n 0, 1) := by decide +kernel
theorem dX12_shiftOf_32 : decode cX12_shiftOf 32 = .ok (.bipush (-2), 2) := by decide +kernel
theorem dX12_shiftOf_34 : decode cX12_shiftOf 34 = .ok (.invokevirtual 269, 3) := by decide +kernel
theorem dX12_shiftOf_37 : decode cX12_shiftOf 37 = .ok (.ireturn, 1) := by decide +kernel
theorem dX12_shiftOf_38 : decode cX12_shiftOf 38 = .ok (.iload 4, 2) := by decide +kernel
theorem dX12_shiftOf_40 : decode cX12_shiftOf 40 = .ok (.iconst 0, 1) := by decide +kernel
theorem dX12_shiftOf_41 : decode cX12_shiftOf 41 = .ok (.iconst 3, 1) := by decide +kernel
theorem dX12_shiftOf_42 : decode cX12_shiftOf 42 = .ok (.invokestatic 262, 3) := by decide +kernel
theorem dX12_shiftOf_45 : decode cX12_shiftOf 45 = .ok (.ifCond .ne 10, 3) := by decide +kernel
theorem dX12_shiftOf_48 : decode cX12_shiftOf 48 = .ok (.aload_n 0, 1) := by decide +kernel
theorem dX12_shiftOf_49 : decode cX12_shiftOf 49 = .ok (.bipush (-3), 2) := by decide +kernel
theorem dX12_shiftOf_51 : decode cX12_shiftOf 51 = .ok (.invokevirtual 269, 3) := by decide +kernel
theorem dX12_shiftOf_54 : decode cX12_shiftOf 54 = .ok (.ireturn, 1) := by decide +kernel
theorem dX12_shiftOf_55 : decode cX12_shiftOf 55 = .ok (.aload_n 0, 1) := by decide +kernel
theorem dX12_shiftOf_56 : decode cX12_shiftOf 56 = .ok (.iload_n 1, 1) := by decide +kernel
theorem dX12_shiftOf_57 : decode cX12_shiftOf 57 = .ok (.iload_n 2, 1) := by decide +kernel
theorem dX12_shiftOf_58 : decode cX12_shiftOf 58 = .ok (.invokevirtual 496, 3) := by decide +kernel
theorem dX12_shiftOf_61 : decode cX12_shiftOf 61 = .ok (.istore 5, 2) := by decide +kernel
theorem dX12_shiftOf_63 : decode cX12_shiftOf 63 = .ok (.bipush (-9), 2) := by decide +kernel
theorem dX12_shiftOf_65 : decode cX12_shiftOf 65 = .ok (.istore 6, 2) := by decide +kernel
theorem dX12_shiftOf_67 : decode cX12_shiftOf 67 = .ok (.iconst 0, 1) := by decide +kernel
theorem dX12_shiftOf_68 : decode cX12_shiftOf 68 = .ok (.istore 7, 2) := by decide +kernel
theorem dX12_shiftOf_70 : decode cX12_shiftOf 70 = .ok (.iload 7, 2) := by decide +kernel
theorem dX12_shiftOf_72 : decode cX12_shiftOf 72 = .ok (.iconst 4, 1) := by decide +kernel
theorem dX12_shiftOf_73 : decode cX12_shiftOf 73 = .ok (.if_icmp .ge 44, 3) := by decide +kernel
theorem dX12_shiftOf_76 : decode cX12_shiftOf 76 = .ok (.iload 5, 2) := by decide +kernel
theorem dX12_shiftOf_78 : decode cX12_shiftOf 78 = .ok (.ifCond .lt 39, 3) := by decide +kernel
theorem dX12_shiftOf_81 : decode cX12_shiftOf 81 = .ok (.aload_n 0, 1) := by decide +kernel
theorem dX12_shiftOf_82 : decode cX12_shiftOf 82 = .ok (.getfield 194, 3) := by decide +kernel
theorem dX12_shiftOf_85 : decode cX12_shiftOf 85 = .ok (.iload 7, 2) := by decide +kernel
theorem dX12_shiftOf_87 : decode cX12_shiftOf 87 = .ok (.iaload, 1) := by decide +kernel
theorem dX12_shiftOf_88 : decode cX12_shiftOf 88 = .ok (.iload_n 3, 1) := by decide +kernel
theorem dX12_shiftOf_89 : decode cX12_shiftOf 89 = .ok (.if_icmp .ne 18, 3) := by decide +kernel
theorem dX12_shiftOf_92 : decode cX12_shiftOf 92 = .ok (.aload_n 0, 1) := by decide +kernel
theorem dX12_shiftOf_93 : decode cX12_shiftOf 93 = .ok (.getfield 203, 3) := by decide +kernel
theorem dX12_shiftOf_96 : decode cX12_shiftOf 96 = .ok (.iload 4, 2) := by decide +kernel
theorem dX12_shiftOf_98 : decode cX12_shiftOf 98 = .ok (.iaload, 1) := by decide +kernel
theorem dX12_shiftOf_99 : decode cX12_shiftOf 99 = .ok (.iload 7, 2) := by decide +kernel
theorem dX12_shiftOf_101 : decode cX12_shiftOf 101 = .ok (.invokestatic 463, 3) := by decide +kernel
theorem dX12_shiftOf_104 : decode cX12_shiftOf 104 = .ok (.goto 5, 3) := by decide +kernel
theorem dX12_shiftOf_107 : decode cX12_shiftOf 107 = .ok (.iload 6, 2) := by decide +kernel
theorem dX12_shiftOf_109 : decode cX12_shiftOf 109 = .ok (.istore 6, 2) := by decide +kernel
theorem dX12_shiftOf_111 : decode cX12_shiftOf 111 = .ok (.iinc 7 1, 3) := by decide +kernel
theorem dX12_shiftOf_114 : decode cX12_shiftOf 114 = .ok (.goto (-44), 3) := by decide +kernel
theorem dX12_shiftOf_117 : decode cX12_shiftOf 117 = .ok (.iload 6, 2) := by decide +kernel
theorem dX12_shiftOf_119 : decode cX12_shiftOf 119 = .ok (.ireturn, 1) := by decide +kernel
theorem dX12_bars_0 : decode cX12_bars 0 = .ok (.iload_n 1, 1) := by decide +kernel
theorem dX12_bars_1 : decode cX12_bars 1 = .ok (.invokestatic 280, 3) := by decide +kernel
theorem dX12_bars_4 : decode cX12_bars 4 = .ok (.ifCond .ne 9, 3) := by decide +kernel
theorem dX12_bars_7 : decode cX12_bars 7 = .ok (.aload_n 0, 1) := by decide +kernel
theorem dX12_bars_8 : decode cX12_bars 8 = .ok (.iconst (-1), 1) := by decide +kernel
theorem dX12_bars_9 : decode cX12_bars 9 = .ok (.invokevirtual 269, 3) := by decide +kernel
theorem dX12_bars_12 : decode cX12_bars 12 = .ok (.ireturn, 1) := by decide +kernel
theorem dX12_bars_13 : decode cX12_bars 13 = .ok (.aload_n 0, 1) := by decide +kernel
theorem dX12_bars_14 : decode cX12_bars 14 = .ok (.iload_n 1, 1) := by decide +kernel
theorem dX12_bars_15 : decode cX12_bars 15 = .ok (.invokevirtual 475, 3) := by decide +kernel
theorem dX12_bars_18 : decode cX12_bars 18 = .ok (.aload_n 0, 1) := by decide +kernel
theorem dX12_bars_19 : decode cX12_bars 19 = .ok (.getfield 460, 3) := by decide +kernel
theorem dX12_bars_22 : decode cX12_bars 22 = .ok (.iconst 4, 1) := by decide +kernel
theorem dX12_bars_23 : decode cX12_bars 23 = .ok (.if_icmp .ge 6, 3) := by decide +kernel
theorem dX12_bars_26 : decode cX12_bars 26 = .ok (.bipush (-8), 2) := by decide +kernel
theorem dX12_bars_28 : decode cX12_bars 28 = .ok (.ireturn, 1) := by decide +kernel
theorem dX12_bars_29 : decode cX12_bars 29 = .ok (.aload_n 0, 1) := by decide +kernel
theorem dX12_bars_30 : decode cX12_bars 30 = .ok (.iload_n 1, 1) := by decide +kernel
theorem dX12_bars_31 : decode cX12_bars 31 = .ok (.bipush 7, 2) := by decide +kernel
theorem dX12_bars_33 : decode cX12_bars 33 = .ok (.invokevirtual 496, 3) := by decide +kernel
theorem dX12_bars_36 : decode cX12_bars 36 = .ok (.ifCond .lt 6, 3) := by decide +kernel
theorem dX12_bars_39 : decode cX12_bars 39 = .ok (.bipush (-9), 2) := by decide +kernel
theorem dX12_bars_41 : decode cX12_bars 41 = .ok (.ireturn, 1) := by decide +kernel
theorem dX12_bars_42 : decode cX12_bars 42 = .ok (.bipush 7, 2) := by decide +kernel
theorem dX12_bars_44 : decode cX12_bars 44 = .ok (.istore_n 2, 1) := by decide +kernel
theorem dX12_bars_45 : decode cX12_bars 45 = .ok (.bipush 6, 2) := by decide +kernel
theorem dX12_bars_47 : decode cX12_bars 47 = .ok (.istore_n 3, 1) := by decide +kernel
theorem dX12_bars_48 : decode cX12_bars 48 = .ok (.iload_n 3, 1) := by decide +kernel
theorem dX12_bars_49 : decode cX12_bars 49 = .ok (.ifCond .lt 35, 3) := by decide +kernel
theorem dX12_bars_52 : decode cX12_bars 52 = .ok (.iload_n 3, 1) := by decide +kernel
theorem dX12_bars_53 : decode cX12_bars 53 = .ok (.invokestatic 354, 3) := by decide +kernel
theorem dX12_bars_56 : decode cX12_bars 56 = .ok (.iload_n 2, 1) := by decide +kernel
theorem dX12_bars_57 : decode cX12_bars 57 = .ok (.invokestatic 354, 3) := by decide +kernel
theorem dX12_bars_60 : decode cX12_bars 60 = .ok (.if_icmp .gt 16, 3) := by decide +kernel
theorem dX12_bars_63 : decode cX12_bars 63 = .ok (.aload_n 0, 1) := by decide +kernel
theorem dX12_bars_64 : decode cX12_bars 64 = .ok (.iload_n 1, 1) := by decide +kernel
theorem dX12_bars_65 : decode cX12_bars 65 = .ok (.iload_n 3, 1) := by decide +kernel
theorem dX12_bars_66 : decode cX12_bars 66 = .ok (.invokevirtual 496, 3) := by decide +kernel
theorem dX12_bars_69 : decode cX12_bars 69 = .ok (.ifCond .ge 7, 3) := by decide +kernel
theorem dX12_bars_72 : decode cX12_bars 72 = .ok (.iload_n 3, 1) := by decide +kernel
theorem dX12_bars_73 : decode cX12_bars 73 = .ok (.goto 4, 3) := by decide +kernel
theorem dX12_bars_76 : decode cX12_bars 76 = .ok (.iload_n 2, 1) := by decide +kernel
theorem dX12_bars_77 : decode cX12_bars 77 = .ok (.istore_n 2, 1) := by decide +kernel
theorem dX12_bars_78 : decode cX12_bars 78 = .ok (.iinc 3 (-1), 3) := by decide +kernel
theorem dX12_bars_81 : decode cX12_bars 81 = .ok (.goto (-33), 3) := by decide +kernel
theorem dX12_bars_84 : decode cX12_bars 84 = .ok (.iload_n 2, 1) := by decide +kernel
theorem dX12_bars_85 : decode cX12_bars 85 = .ok (.ireturn, 1) := by decide +kernel
theorem dX12_isPiece_0 : decode cX12_isPiece 0 = .ok (.iload_n 0, 1) := by decide +kernel
theorem dX12_isPiece_1 : decode cX12_isPiece 1 = .ok (.iconst 0, 1) := by decide +kernel
theorem dX12_isPiece_2 : decode cX12_isPiece 2 = .ok (.iconst 4, 1) := by decide +kernel
theorem dX12_isPiece_3 : decode cX12_isPiece 3 = .ok (.invokestatic 262, 3) := by decide +kernel
theorem dX12_isPiece_6 : decode cX12_isPiece 6 = .ok (.ireturn, 1) := by decide +kernel
theorem dX12_study_0 : decode cX12_study 0 = .ok (.iload_n 1, 1) := by decide +kernel
theorem dX12_study_1 : decode cX12_study 1 = .ok (.invokestatic 499, 3) := by decide +kernel
theorem dX12_study_4 : decode cX12_study 4 = .ok (.ifCond .ne 9, 3) := by decide +kernel
theorem dX12_study_7 : decode cX12_study 7 = .ok (.aload_n 0, 1) := by decide +kernel
theorem dX12_study_8 : decode cX12_study 8 = .ok (.iconst (-1), 1) := by decide +kernel
theorem dX12_study_9 : decode cX12_study 9 = .ok (.invokevirtual 269, 3) := by decide +kernel
theorem dX12_study_12 : decode cX12_study 12 = .ok (.ireturn, 1) := by decide +kernel
theorem dX12_study_13 : decode cX12_study 13 = .ok (.iload_n 2, 1) := by decide +kernel
theorem dX12_study_14 : decode cX12_study 14 = .ok (.iconst 1, 1) := by decide +kernel
theorem dX12_study_15 : decode cX12_study 15 = .ok (.if_icmp .ge 10, 3) := by decide +kernel
theorem dX12_study_18 : decode cX12_study 18 = .ok (.aload_n 0, 1) := by decide +kernel
theorem dX12_study_19 : decode cX12_study 19 = .ok (.bipush (-4), 2) := by decide +kernel
theorem dX12_study_21 : decode cX12_study 21 = .ok (.invokevirtual 269, 3) := by decide +kernel
theorem dX12_study_24 : decode cX12_study 24 = .ok (.ireturn, 1) := by decide +kernel
theorem dX12_study_25 : decode cX12_study 25 = .ok (.iload_n 2, 1) := by decide +kernel
theorem dX12_study_26 : decode cX12_study 26 = .ok (.sipush 999, 3) := by decide +kernel
theorem dX12_study_29 : decode cX12_study 29 = .ok (.if_icmp .gt 14, 3) := by decide +kernel
theorem dX12_study_32 : decode cX12_study 32 = .ok (.aload_n 0, 1) := by decide +kernel
theorem dX12_study_33 : decode cX12_study 33 = .ok (.getfield 222, 3) := by decide +kernel
theorem dX12_study_36 : decode cX12_study 36 = .ok (.iload_n 1, 1) := by decide +kernel
theorem dX12_study_37 : decode cX12_study 37 = .ok (.iaload, 1) := by decide +kernel
theorem dX12_study_38 : decode cX12_study 38 = .ok (.bipush 12, 2) := by decide +kernel
theorem dX12_study_40 : decode cX12_study 40 = .ok (.if_icmp .ne 10, 3) := by decide +kernel
theorem dX12_study_43 : decode cX12_study 43 = .ok (.aload_n 0, 1) := by decide +kernel
theorem dX12_study_44 : decode cX12_study 44 = .ok (.bipush (-6), 2) := by decide +kernel
theorem dX12_study_46 : decode cX12_study 46 = .ok (.invokevirtual 269, 3) := by decide +kernel
theorem dX12_study_49 : decode cX12_study 49 = .ok (.ireturn, 1) := by decide +kernel
theorem dX12_study_50 : decode cX12_study 50 = .ok (.aload_n 0, 1) := by decide +kernel
theorem dX12_study_51 : decode cX12_study 51 = .ok (.getfield 225, 3) := by decide +kernel
theorem dX12_study_54 : decode cX12_study 54 = .ok (.bipush 12, 2) := by decide +kernel
theorem dX12_study_56 : decode cX12_study 56 = .ok (.iload_n 1, 1) := by decide +kernel
theorem dX12_study_57 : decode cX12_study 57 = .ok (.imul, 1) := by decide +kernel
theorem dX12_study_58 : decode cX12_study 58 = .ok (.aload_n 0, 1) := by decide +kernel
theorem dX12_study_59 : decode cX12_study 59 = .ok (.getfield 222, 3) := by decide +kernel
theorem dX12_study_62 : decode cX12_study 62 = .ok (.iload_n 1, 1) := by decide +kernel
theorem dX12_study_63 : decode cX12_study 63 = .ok (.iaload, 1) := by decide +kernel
theorem dX12_study_64 : decode cX12_study 64 = .ok (.iadd, 1) := by decide +kernel
theorem dX12_study_65 : decode cX12_study 65 = .ok (.aload_n 0, 1) := by decide +kernel
theorem dX12_study_66 : decode cX12_study 66 = .ok (.getfield 273, 3) := by decide +kernel
theorem dX12_study_69 : decode cX12_study 69 = .ok (.iastore, 1) := by decide +kernel
theorem dX12_study_70 : decode cX12_study 70 = .ok (.aload_n 0, 1) := by decide +kernel
theorem dX12_study_71 : decode cX12_study 71 = .ok (.getfield 228, 3) := by decide +kernel
theorem dX12_study_74 : decode cX12_study 74 = .ok (.bipush 12, 2) := by decide +kernel
theorem dX12_study_76 : decode cX12_study 76 = .ok (.iload_n 1, 1) := by decide +kernel
theorem dX12_study_77 : decode cX12_study 77 = .ok (.imul, 1) := by decide +kernel
theorem dX12_study_78 : decode cX12_study 78 = .ok (.aload_n 0, 1) := by decide +kernel
theorem dX12_study_79 : decode cX12_study 79 = .ok (.getfield 222, 3) := by decide +kernel
theorem dX12_study_82 : decode cX12_study 82 = .ok (.iload_n 1, 1) := by decide +kernel
theorem dX12_study_83 : decode cX12_study 83 = .ok (.iaload, 1) := by decide +kernel
theorem dX12_study_84 : decode cX12_study 84 = .ok (.iadd, 1) := by decide +kernel
theorem dX12_study_85 : decode cX12_study 85 = .ok (.iload_n 2, 1) := by decide +kernel
theorem dX12_study_86 : decode cX12_study 86 = .ok (.iastore, 1) := by decide +kernel
theorem dX12_study_87 : decode cX12_study 87 = .ok (.aload_n 0, 1) := by decide +kernel
theorem dX12_study_88 : decode cX12_study 88 = .ok (.getfield 222, 3) := by decide +kernel
theorem dX12_study_91 : decode cX12_study 91 = .ok (.iload_n 1, 1) := by decide +kernel
theorem dX12_study_92 : decode cX12_study 92 = .ok (.dup2, 1) := by decide +kernel
theorem dX12_study_93 : decode cX12_study 93 = .ok (.iaload, 1) := by decide +kernel
theorem dX12_study_94 : decode cX12_study 94 = .ok (.iconst 1, 1) := by decide +kernel
theorem dX12_study_95 : decode cX12_study 95 = .ok (.iadd, 1) := by decide +kernel
theorem dX12_study_96 : decode cX12_study 96 = .ok (.iastore, 1) := by decide +kernel
theorem dX12_study_97 : decode cX12_study 97 = .ok (.aload_n 0, 1) := by decide +kernel
theorem dX12_study_98 : decode cX12_study 98 = .ok (.getfield 222, 3) := by decide +kernel
theorem dX12_study_101 : decode cX12_study 101 = .ok (.iload_n 1, 1) := by decide +kernel
theorem dX12_study_102 : decode cX12_study 102 = .ok (.iaload, 1) := by decide +kernel
theorem dX12_study_103 : decode cX12_study 103 = .ok (.ireturn, 1) := by decide +kernel
theorem dX12_timeOf_0 : decode cX12_timeOf 0 = .ok (.iconst 0, 1) := by decide +kernel
theorem dX12_timeOf_1 : decode cX12_timeOf 1 = .ok (.istore_n 3, 1) := by decide +kernel
theorem dX12_timeOf_2 : decode cX12_timeOf 2 = .ok (.iconst 0, 1) := by decide +kernel
theorem dX12_timeOf_3 : decode cX12_timeOf 3 = .ok (.istore 4, 2) := by decide +kernel
theorem dX12_timeOf_5 : decode cX12_timeOf 5 = .ok (.sipush 1000, 3) := by decide +kernel
theorem dX12_timeOf_8 : decode cX12_timeOf 8 = .ok (.istore 5, 2) := by decide +kernel
theorem dX12_timeOf_10 : decode cX12_timeOf 10 = .ok (.iconst 0, 1) := by decide +kernel
theorem dX12_timeOf_11 : decode cX12_timeOf 11 = .ok (.istore 6, 2) := by decide +kernel
theorem dX12_timeOf_13 : decode cX12_timeOf 13 = .ok (.bipush 12, 2) := by decide +kernel
theorem dX12_timeOf_15 : decode cX12_timeOf 15 = .ok (.iload_n 1, 1) := by decide +kernel
theorem dX12_timeOf_16 : decode cX12_timeOf 16 = .ok (.imul, 1) := by decide +kernel
theorem dX12_timeOf_17 : decode cX12_timeOf 17 = .ok (.istore 7, 2) := by decide +kernel
theorem dX12_timeOf_19 : decode cX12_timeOf 19 = .ok (.iload 7, 2) := by decide +kernel
theorem dX12_timeOf_21 : decode cX12_timeOf 21 = .ok (.bipush 12, 2) := by decide +kernel
theorem dX12_timeOf_23 : decode cX12_timeOf 23 = .ok (.iload_n 1, 1) := by decide +kernel
theorem dX12_timeOf_24 : decode cX12_timeOf 24 = .ok (.imul, 1) := by decide +kernel
theorem dX12_timeOf_25 : decode cX12_timeOf 25 = .ok (.aload_n 0, 1) := by decide +kernel
theorem dX12_timeOf_26 : decode cX12_timeOf 26 = .ok (.getfield 222, 3) := by decide +kernel
theorem dX12_timeOf_29 : decode cX12_timeOf 29 = .ok (.iload_n 1, 1) := by decide +kernel
theorem dX12_timeOf_30 : decode cX12_timeOf 30 = .ok (.iaload, 1) := by decide +kernel
theorem dX12_timeOf_31 : decode cX12_timeOf 31 = .ok (.iadd, 1) := by decide +kernel
theorem dX12_timeOf_32 : decode cX12_timeOf 32 = .ok (.if_icmp .ge 87, 3) := by decide +kernel
theorem dX12_timeOf_35 : decode cX12_timeOf 35 = .ok (.aload_n 0, 1) := by decide +kernel
theorem dX12_timeOf_36 : decode cX12_timeOf 36 = .ok (.getfield 225, 3) := by decide +kernel
theorem dX12_timeOf_39 : decode cX12_timeOf 39 = .ok (.iload 7, 2) := by decide +kernel
theorem dX12_timeOf_41 : decode cX12_timeOf 41 = .ok (.iaload, 1) := by decide +kernel
theorem dX12_timeOf_42 : decode cX12_timeOf 42 = .ok (.iload_n 2, 1) := by decide +kernel
theorem dX12_timeOf_43 : decode cX12_timeOf 43 = .ok (.if_icmp .gt 70, 3) := by decide +kernel
theorem dX12_timeOf_46 : decode cX12_timeOf 46 = .ok (.iinc 3 1, 3) := by decide +kernel
theorem dX12_timeOf_49 : decode cX12_timeOf 49 = .ok (.iload 4, 2) := by decide +kernel
theorem dX12_timeOf_51 : decode cX12_timeOf 51 = .ok (.aload_n 0, 1) := by decide +kernel
theorem dX12_timeOf_52 : decode cX12_timeOf 52 = .ok (.getfield 228, 3) := by decide +kernel
theorem dX12_timeOf_55 : decode cX12_timeOf 55 = .ok (.iload 7, 2) := by decide +kernel
theorem dX12_timeOf_57 : decode cX12_timeOf 57 = .ok (.iaload, 1) := by decide +kernel
theorem dX12_timeOf_58 : decode cX12_timeOf 58 = .ok (.iadd, 1) := by decide +kernel
theorem dX12_timeOf_59 : decode cX12_timeOf 59 = .ok (.istore 4, 2) := by decide +kernel
theorem dX12_timeOf_61 : decode cX12_timeOf 61 = .ok (.aload_n 0, 1) := by decide +kernel
theorem dX12_timeOf_62 : decode cX12_timeOf 62 = .ok (.getfield 228, 3) := by decide +kernel
theorem dX12_timeOf_65 : decode cX12_timeOf 65 = .ok (.iload 7, 2) := by decide +kernel
theorem dX12_timeOf_67 : decode cX12_timeOf 67 = .ok (.iaload, 1) := by decide +kernel
theorem dX12_timeOf_68 : decode cX12_timeOf 68 = .ok (.iload 5, 2) := by decide +kernel
theorem dX12_timeOf_70 : decode cX12_timeOf 70 = .ok (.if_icmp .ge 13, 3) := by decide +kernel
theorem dX12_timeOf_73 : decode cX12_timeOf 73 = .ok (.aload_n 0, 1) := by decide +kernel
theorem dX12_timeOf_74 : decode cX12_timeOf 74 = .ok (.getfield 228, 3) := by decide +kernel
theorem dX12_timeOf_77 : decode cX12_timeOf 77 = .ok (.iload 7, 2) := by decide +kernel
theorem dX12_timeOf_79 : decode cX12_timeOf 79 = .ok (.iaload, 1) := by decide +kernel
theorem dX12_timeOf_80 : decode cX12_timeOf 80 = .ok (.goto 5, 3) := by decide +kernel
theorem dX12_timeOf_83 : decode cX12_timeOf 83 = .ok (.iload 5, 2) := by decide +kernel
theorem dX12_timeOf_85 : decode cX12_timeOf 85 = .ok (.istore 5, 2) := by decide +kernel
theorem dX12_timeOf_87 : decode cX12_timeOf 87 = .ok (.aload_n 0, 1) := by decide +kernel
theorem dX12_timeOf_88 : decode cX12_timeOf 88 = .ok (.getfield 228, 3) := by decide +kernel
theorem dX12_timeOf_91 : decode cX12_timeOf 91 = .ok (.iload 7, 2) := by decide +kernel
theorem dX12_timeOf_93 : decode cX12_timeOf 93 = .ok (.iaload, 1) := by decide +kernel
theorem dX12_timeOf_94 : decode cX12_timeOf 94 = .ok (.iload 6, 2) := by decide +kernel
theorem dX12_timeOf_96 : decode cX12_timeOf 96 = .ok (.if_icmp .le 13, 3) := by decide +kernel
theorem dX12_timeOf_99 : decode cX12_timeOf 99 = .ok (.aload_n 0, 1) := by decide +kernel
theorem dX12_timeOf_100 : decode cX12_timeOf 100 = .ok (.getfield 228, 3) := by decide +kernel
theorem dX12_timeOf_103 : decode cX12_timeOf 103 = .ok (.iload 7, 2) := by decide +kernel
theorem dX12_timeOf_105 : decode cX12_timeOf 105 = .ok (.iaload, 1) := by decide +kernel
theorem dX12_timeOf_106 : decode cX12_timeOf 106 = .ok (.goto 5, 3) := by decide +kernel
theorem dX12_timeOf_109 : decode cX12_timeOf 109 = .ok (.iload 6, 2) := by decide +kernel
theorem dX12_timeOf_111 : decode cX12_timeOf 111 = .ok (.istore 6, 2) := by decide +kernel
theorem dX12_timeOf_113 : decode cX12_timeOf 113 = .ok (.iinc 7 1, 3) := by decide +kernel
theorem dX12_timeOf_116 : decode cX12_timeOf 116 = .ok (.goto (-97), 3) := by decide +kernel
theorem dX12_timeOf_119 : decode cX12_timeOf 119 = .ok (.iload_n 3, 1) := by decide +kernel
theorem dX12_timeOf_120 : decode cX12_timeOf 120 = .ok (.iconst 3, 1) := by decide +kernel
theorem dX12_timeOf_121 : decode cX12_timeOf 121 = .ok (.if_icmp .ge 8, 3) := by decide +kernel
theorem dX12_timeOf_124 : decode cX12_timeOf 124 = .ok (.bipush (-9), 2) := by decide +kernel
theorem dX12_timeOf_126 : decode cX12_timeOf 126 = .ok (.goto 15, 3) := by decide +kernel
theorem dX12_timeOf_129 : decode cX12_timeOf 129 = .ok (.iload 4, 2) := by decide +kernel
theorem dX12_timeOf_131 : decode cX12_timeOf 131 = .ok (.iload 5, 2) := by decide +kernel
theorem dX12_timeOf_133 : decode cX12_timeOf 133 = .ok (.isub, 1) := by decide +kernel
theorem dX12_timeOf_134 : decode cX12_timeOf 134 = .ok (.iload 6, 2) := by decide +kernel
theorem dX12_timeOf_136 : decode cX12_timeOf 136 = .ok (.isub, 1) := by decide +kernel
theorem dX12_timeOf_137 : decode cX12_timeOf 137 = .ok (.iload_n 3, 1) := by decide +kernel
theorem dX12_timeOf_138 : decode cX12_timeOf 138 = .ok (.iconst 2, 1) := by decide +kernel
theorem dX12_timeOf_139 : decode cX12_timeOf 139 = .ok (.isub, 1) := by decide +kernel
theorem dX12_timeOf_140 : decode cX12_timeOf 140 = .ok (.idiv, 1) := by decide +kernel
theorem dX12_timeOf_141 : decode cX12_timeOf 141 = .ok (.ireturn, 1) := by decide +kernel
theorem dX12_time_0 : decode cX12_time 0 = .ok (.iload_n 1, 1) := by decide +kernel
theorem dX12_time_1 : decode cX12_time 1 = .ok (.invokestatic 499, 3) := by decide +kernel
theorem dX12_time_4 : decode cX12_time 4 = .ok (.ifCond .ne 9, 3) := by decide +kernel
theorem dX12_time_7 : decode cX12_time 7 = .ok (.aload_n 0, 1) := by decide +kernel
theorem dX12_time_8 : decode cX12_time 8 = .ok (.iconst (-1), 1) := by decide +kernel
theorem dX12_time_9 : decode cX12_time 9 = .ok (.invokevirtual 269, 3) := by decide +kernel
theorem dX12_time_12 : decode cX12_time 12 = .ok (.ireturn, 1) := by decide +kernel
theorem dX12_time_13 : decode cX12_time 13 = .ok (.iload_n 2, 1) := by decide +kernel
theorem dX12_time_14 : decode cX12_time 14 = .ok (.ifCond .ge 12, 3) := by decide +kernel
theorem dX12_time_17 : decode cX12_time 17 = .ok (.aload_n 0, 1) := by decide +kernel
theorem dX12_time_18 : decode cX12_time 18 = .ok (.bipush (-4), 2) := by decide +kernel
theorem dX12_time_20 : decode cX12_time 20 = .ok (.invokevirtual 269, 3) := by decide +kernel
theorem dX12_time_23 : decode cX12_time 23 = .ok (.goto 25, 3) := by decide +kernel
theorem dX12_time_26 : decode cX12_time 26 = .ok (.iload_n 2, 1) := by decide +kernel
theorem dX12_time_27 : decode cX12_time 27 = .ok (.sipush 1000, 3) := by decide +kernel
theorem dX12_time_30 : decode cX12_time 30 = .ok (.if_icmp .le 12, 3) := by decide +kernel
theorem dX12_time_33 : decode cX12_time 33 = .ok (.aload_n 0, 1) := by decide +kernel
theorem dX12_time_34 : decode cX12_time 34 = .ok (.bipush (-6), 2) := by decide +kernel
theorem dX12_time_36 : decode cX12_time 36 = .ok (.invokevirtual 269, 3) := by decide +kernel
theorem dX12_time_39 : decode cX12_time 39 = .ok (.goto 9, 3) := by decide +kernel
theorem dX12_time_42 : decode cX12_time 42 = .ok (.aload_n 0, 1) := by decide +kernel
theorem dX12_time_43 : decode cX12_time 43 = .ok (.iload_n 1, 1) := by decide +kernel
theorem dX12_time_44 : decode cX12_time 44 = .ok (.iload_n 2, 1) := by decide +kernel
theorem dX12_time_45 : decode cX12_time 45 = .ok (.invokevirtual 502, 3) := by decide +kernel
theorem dX12_time_48 : decode cX12_time 48 = .ok (.ireturn, 1) := by decide +kernel
theorem dX12_changed_0 : decode cX12_changed 0 = .ok (.iload_n 1, 1) := by decide +kernel
theorem dX12_changed_1 : decode cX12_changed 1 = .ok (.invokestatic 499, 3) := by decide +kernel
theorem dX12_changed_4 : decode cX12_changed 4 = .ok (.ifCond .ne 9, 3) := by decide +kernel
theorem dX12_changed_7 : decode cX12_changed 7 = .ok (.aload_n 0, 1) := by decide +kernel
theorem dX12_changed_8 : decode cX12_changed 8 = .ok (.iconst (-1), 1) := by decide +kernel
theorem dX12_changed_9 : decode cX12_changed 9 = .ok (.invokevirtual 269, 3) := by decide +kernel
theorem dX12_changed_12 : decode cX12_changed 12 = .ok (.ireturn, 1) := by decide +kernel
theorem dX12_changed_13 : decode cX12_changed 13 = .ok (.iload_n 2, 1) := by decide +kernel
theorem dX12_changed_14 : decode cX12_changed 14 = .ok (.iconst 1, 1) := by decide +kernel
theorem dX12_changed_15 : decode cX12_changed 15 = .ok (.if_icmp .lt 7, 3) := by decide +kernel
theorem dX12_changed_18 : decode cX12_changed 18 = .ok (.iload_n 3, 1) := by decide +kernel
theorem dX12_changed_19 : decode cX12_changed 19 = .ok (.ifCond .ge 10, 3) := by decide +kernel
theorem dX12_changed_22 : decode cX12_changed 22 = .ok (.aload_n 0, 1) := by decide +kernel
theorem dX12_changed_23 : decode cX12_changed 23 = .ok (.bipush (-4), 2) := by decide +kernel
theorem dX12_changed_25 : decode cX12_changed 25 = .ok (.invokevirtual 269, 3) := by decide +kernel
theorem dX12_changed_28 : decode cX12_changed 28 = .ok (.ireturn, 1) := by decide +kernel
theorem dX12_changed_29 : decode cX12_changed 29 = .ok (.iload_n 2, 1) := by decide +kernel
theorem dX12_changed_30 : decode cX12_changed 30 = .ok (.sipush 999, 3) := by decide +kernel
theorem dX12_changed_33 : decode cX12_changed 33 = .ok (.if_icmp .gt 10, 3) := by decide +kernel
theorem dX12_changed_36 : decode cX12_changed 36 = .ok (.iload_n 3, 1) := by decide +kernel
theorem dX12_changed_37 : decode cX12_changed 37 = .ok (.sipush 1000, 3) := by decide +kernel
theorem dX12_changed_40 : decode cX12_changed 40 = .ok (.if_icmp .le 10, 3) := by decide +kernel
theorem dX12_changed_43 : decode cX12_changed 43 = .ok (.aload_n 0, 1) := by decide +kernel
theorem dX12_changed_44 : decode cX12_changed 44 = .ok (.bipush (-6), 2) := by decide +kernel
theorem dX12_changed_46 : decode cX12_changed 46 = .ok (.invokevirtual 269, 3) := by decide +kernel
theorem dX12_changed_49 : decode cX12_changed 49 = .ok (.ireturn, 1) := by decide +kernel
theorem dX12_changed_50 : decode cX12_changed 50 = .ok (.aload_n 0, 1) := by decide +kernel
theorem dX12_changed_51 : decode cX12_changed 51 = .ok (.iload_n 1, 1) := by decide +kernel
theorem dX12_changed_52 : decode cX12_changed 52 = .ok (.iload_n 3, 1) := by decide +kernel
theorem dX12_changed_53 : decode cX12_changed 53 = .ok (.invokevirtual 502, 3) := by decide +kernel
theorem dX12_changed_56 : decode cX12_changed 56 = .ok (.istore 4, 2) := by decide +kernel
theorem dX12_changed_58 : decode cX12_changed 58 = .ok (.iload 4, 2) := by decide +kernel
theorem dX12_changed_60 : decode cX12_changed 60 = .ok (.iload_n 2, 1) := by decide +kernel
theorem dX12_changed_61 : decode cX12_changed 61 = .ok (.if_icmp .le 10, 3) := by decide +kernel
theorem dX12_changed_64 : decode cX12_changed 64 = .ok (.iload 4, 2) := by decide +kernel
theorem dX12_changed_66 : decode cX12_changed 66 = .ok (.iload_n 2, 1) := by decide +kernel
theorem dX12_changed_67 : decode cX12_changed 67 = .ok (.isub, 1) := by decide +kernel
theorem dX12_changed_68 : decode cX12_changed 68 = .ok (.goto 7, 3) := by decide +kernel
theorem dX12_changed_71 : decode cX12_changed 71 = .ok (.iload_n 2, 1) := by decide +kernel
theorem dX12_changed_72 : decode cX12_changed 72 = .ok (.iload 4, 2) := by decide +kernel
theorem dX12_changed_74 : decode cX12_changed 74 = .ok (.isub, 1) := by decide +kernel
theorem dX12_changed_75 : decode cX12_changed 75 = .ok (.istore 5, 2) := by decide +kernel
theorem dX12_changed_77 : decode cX12_changed 77 = .ok (.iload 4, 2) := by decide +kernel
theorem dX12_changed_79 : decode cX12_changed 79 = .ok (.ifCond .lt 16, 3) := by decide +kernel
theorem dX12_changed_82 : decode cX12_changed 82 = .ok (.bipush 10, 2) := by decide +kernel
theorem dX12_changed_84 : decode cX12_changed 84 = .ok (.iload 5, 2) := by decide +kernel
theorem dX12_changed_86 : decode cX12_changed 86 = .ok (.imul, 1) := by decide +kernel
theorem dX12_changed_87 : decode cX12_changed 87 = .ok (.iload_n 2, 1) := by decide +kernel
theorem dX12_changed_88 : decode cX12_changed 88 = .ok (.if_icmp .le 7, 3) := by decide +kernel
theorem dX12_changed_91 : decode cX12_changed 91 = .ok (.iconst 1, 1) := by decide +kernel
theorem dX12_changed_92 : decode cX12_changed 92 = .ok (.goto 4, 3) := by decide +kernel
theorem dX12_changed_95 : decode cX12_changed 95 = .ok (.iconst 0, 1) := by decide +kernel
theorem dX12_changed_96 : decode cX12_changed 96 = .ok (.ireturn, 1) := by decide +kernel
theorem dX12_weight_0 : decode cX12_weight 0 = .ok (.iload_n 1, 1) := by decide +kernel
theorem dX12_weight_1 : decode cX12_weight 1 = .ok (.iconst 0, 1) := by decide +kernel
theorem dX12_weight_2 : decode cX12_weight 2 = .ok (.iconst 3, 1) := by decide +kernel
theorem dX12_weight_3 : decode cX12_weight 3 = .ok (.invokestatic 262, 3) := by decide +kernel
theorem dX12_weight_6 : decode cX12_weight 6 = .ok (.ifCond .ne 10, 3) := by decide +kernel
theorem dX12_weight_9 : decode cX12_weight 9 = .ok (.aload_n 0, 1) := by decide +kernel
theorem dX12_weight_10 : decode cX12_weight 10 = .ok (.bipush (-2), 2) := by decide +kernel
theorem dX12_weight_12 : decode cX12_weight 12 = .ok (.invokevirtual 269, 3) := by decide +kernel
theorem dX12_weight_15 : decode cX12_weight 15 = .ok (.ireturn, 1) := by decide +kernel
theorem dX12_weight_16 : decode cX12_weight 16 = .ok (.iload_n 2, 1) := by decide +kernel
theorem dX12_weight_17 : decode cX12_weight 17 = .ok (.ifCond .ge 10, 3) := by decide +kernel
theorem dX12_weight_20 : decode cX12_weight 20 = .ok (.aload_n 0, 1) := by decide +kernel
theorem dX12_weight_21 : decode cX12_weight 21 = .ok (.bipush (-4), 2) := by decide +kernel
theorem dX12_weight_23 : decode cX12_weight 23 = .ok (.invokevirtual 269, 3) := by decide +kernel
theorem dX12_weight_26 : decode cX12_weight 26 = .ok (.ireturn, 1) := by decide +kernel
theorem dX12_weight_27 : decode cX12_weight 27 = .ok (.iload_n 2, 1) := by decide +kernel
theorem dX12_weight_28 : decode cX12_weight 28 = .ok (.bipush 9, 2) := by decide +kernel
theorem dX12_weight_30 : decode cX12_weight 30 = .ok (.if_icmp .le 10, 3) := by decide +kernel
theorem dX12_weight_33 : decode cX12_weight 33 = .ok (.aload_n 0, 1) := by decide +kernel
theorem dX12_weight_34 : decode cX12_weight 34 = .ok (.bipush (-6), 2) := by decide +kernel
theorem dX12_weight_36 : decode cX12_weight 36 = .ok (.invokevirtual 269, 3) := by decide +kernel
theorem dX12_weight_39 : decode cX12_weight 39 = .ok (.ireturn, 1) := by decide +kernel
theorem dX12_weight_40 : decode cX12_weight 40 = .ok (.aload_n 0, 1) := by decide +kernel
theorem dX12_weight_41 : decode cX12_weight 41 = .ok (.getfield 231, 3) := by decide +kernel
theorem dX12_weight_44 : decode cX12_weight 44 = .ok (.iload_n 1, 1) := by decide +kernel
theorem dX12_weight_45 : decode cX12_weight 45 = .ok (.iaload, 1) := by decide +kernel
theorem dX12_weight_46 : decode cX12_weight 46 = .ok (.istore_n 3, 1) := by decide +kernel
theorem dX12_weight_47 : decode cX12_weight 47 = .ok (.aload_n 0, 1) := by decide +kernel
theorem dX12_weight_48 : decode cX12_weight 48 = .ok (.getfield 231, 3) := by decide +kernel
theorem dX12_weight_51 : decode cX12_weight 51 = .ok (.iload_n 1, 1) := by decide +kernel
theorem dX12_weight_52 : decode cX12_weight 52 = .ok (.iload_n 2, 1) := by decide +kernel
theorem dX12_weight_53 : decode cX12_weight 53 = .ok (.iastore, 1) := by decide +kernel
theorem dX12_weight_54 : decode cX12_weight 54 = .ok (.iload_n 3, 1) := by decide +kernel
theorem dX12_weight_55 : decode cX12_weight 55 = .ok (.ireturn, 1) := by decide +kernel
theorem dX12_list_0 : decode cX12_list 0 = .ok (.aload_n 0, 1) := by decide +kernel
theorem dX12_list_1 : decode cX12_list 1 = .ok (.aload_n 0, 1) := by decide +kernel
theorem dX12_list_2 : decode cX12_list 2 = .ok (.getfield 273, 3) := by decide +kernel
theorem dX12_list_5 : decode cX12_list 5 = .ok (.putfield 234, 3) := by decide +kernel
theorem dX12_list_8 : decode cX12_list 8 = .ok (.iconst 0, 1) := by decide +kernel
theorem dX12_list_9 : decode cX12_list 9 = .ok (.istore_n 1, 1) := by decide +kernel
theorem dX12_list_10 : decode cX12_list 10 = .ok (.iload_n 1, 1) := by decide +kernel
theorem dX12_list_11 : decode cX12_list 11 = .ok (.bipush 48, 2) := by decide +kernel
theorem dX12_list_13 : decode cX12_list 13 = .ok (.if_icmp .ge 21, 3) := by decide +kernel
theorem dX12_list_16 : decode cX12_list 16 = .ok (.aload_n 0, 1) := by decide +kernel
theorem dX12_list_17 : decode cX12_list 17 = .ok (.getfield 26, 3) := by decide +kernel
theorem dX12_list_20 : decode cX12_list 20 = .ok (.iload_n 1, 1) := by decide +kernel
theorem dX12_list_21 : decode cX12_list 21 = .ok (.aload_n 0, 1) := by decide +kernel
theorem dX12_list_22 : decode cX12_list 22 = .ok (.getfield 23, 3) := by decide +kernel
theorem dX12_list_25 : decode cX12_list 25 = .ok (.iload_n 1, 1) := by decide +kernel
theorem dX12_list_26 : decode cX12_list 26 = .ok (.iaload, 1) := by decide +kernel
theorem dX12_list_27 : decode cX12_list 27 = .ok (.iastore, 1) := by decide +kernel
theorem dX12_list_28 : decode cX12_list 28 = .ok (.iinc 1 1, 3) := by decide +kernel
theorem dX12_list_31 : decode cX12_list 31 = .ok (.goto (-21), 3) := by decide +kernel
theorem dX12_list_34 : decode cX12_list 34 = .ok (.iconst 1, 1) := by decide +kernel
theorem dX12_list_35 : decode cX12_list 35 = .ok (.ireturn, 1) := by decide +kernel
theorem dX12_right_0 : decode cX12_right 0 = .ok (.aload_n 0, 1) := by decide +kernel
theorem dX12_right_1 : decode cX12_right 1 = .ok (.iload_n 1, 1) := by decide +kernel
theorem dX12_right_2 : decode cX12_right 2 = .ok (.invokevirtual 284, 3) := by decide +kernel
theorem dX12_right_5 : decode cX12_right 5 = .ok (.ifCond .ne 9, 3) := by decide +kernel
theorem dX12_right_8 : decode cX12_right 8 = .ok (.aload_n 0, 1) := by decide +kernel
theorem dX12_right_9 : decode cX12_right 9 = .ok (.iconst (-1), 1) := by decide +kernel
theorem dX12_right_10 : decode cX12_right 10 = .ok (.invokevirtual 269, 3) := by decide +kernel
theorem dX12_right_13 : decode cX12_right 13 = .ok (.ireturn, 1) := by decide +kernel
theorem dX12_right_14 : decode cX12_right 14 = .ok (.iload_n 2, 1) := by decide +kernel
theorem dX12_right_15 : decode cX12_right 15 = .ok (.iconst 0, 1) := by decide +kernel
theorem dX12_right_16 : decode cX12_right 16 = .ok (.iconst 1, 1) := by decide +kernel
theorem dX12_right_17 : decode cX12_right 17 = .ok (.invokestatic 262, 3) := by decide +kernel
theorem dX12_right_20 : decode cX12_right 20 = .ok (.ifCond .ne 10, 3) := by decide +kernel
theorem dX12_right_23 : decode cX12_right 23 = .ok (.aload_n 0, 1) := by decide +kernel
theorem dX12_right_24 : decode cX12_right 24 = .ok (.bipush (-2), 2) := by decide +kernel
theorem dX12_right_26 : decode cX12_right 26 = .ok (.invokevirtual 269, 3) := by decide +kernel
theorem dX12_right_29 : decode cX12_right 29 = .ok (.ireturn, 1) := by decide +kernel
theorem dX12_right_30 : decode cX12_right 30 = .ok (.iload_n 3, 1) := by decide +kernel
theorem dX12_right_31 : decode cX12_right 31 = .ok (.ifCond .ge 10, 3) := by decide +kernel
theorem dX12_right_34 : decode cX12_right 34 = .ok (.aload_n 0, 1) := by decide +kernel
theorem dX12_right_35 : decode cX12_right 35 = .ok (.bipush (-4), 2) := by decide +kernel
theorem dX12_right_37 : decode cX12_right 37 = .ok (.invokevirtual 269, 3) := by decide +kernel
theorem dX12_right_40 : decode cX12_right 40 = .ok (.ireturn, 1) := by decide +kernel
theorem dX12_right_41 : decode cX12_right 41 = .ok (.iload_n 3, 1) := by decide +kernel
theorem dX12_right_42 : decode cX12_right 42 = .ok (.iload_n 2, 1) := by decide +kernel
theorem dX12_right_43 : decode cX12_right 43 = .ok (.ifCond .ne 8, 3) := by decide +kernel
theorem dX12_right_46 : decode cX12_right 46 = .ok (.bipush 9, 2) := by decide +kernel
theorem dX12_right_48 : decode cX12_right 48 = .ok (.goto 5, 3) := by decide +kernel
theorem dX12_right_51 : decode cX12_right 51 = .ok (.bipush 100, 2) := by decide +kernel
theorem dX12_right_53 : decode cX12_right 53 = .ok (.if_icmp .le 10, 3) := by decide +kernel
theorem dX12_right_56 : decode cX12_right 56 = .ok (.aload_n 0, 1) := by decide +kernel
theorem dX12_right_57 : decode cX12_right 57 = .ok (.bipush (-6), 2) := by decide +kernel
theorem dX12_right_59 : decode cX12_right 59 = .ok (.invokevirtual 269, 3) := by decide +kernel
theorem dX12_right_62 : decode cX12_right 62 = .ok (.ireturn, 1) := by decide +kernel
theorem dX12_right_63 : decode cX12_right 63 = .ok (.aload_n 0, 1) := by decide +kernel
theorem dX12_right_64 : decode cX12_right 64 = .ok (.getfield 23, 3) := by decide +kernel
theorem dX12_right_67 : decode cX12_right 67 = .ok (.iconst 2, 1) := by decide +kernel
theorem dX12_right_68 : decode cX12_right 68 = .ok (.iload_n 1, 1) := by decide +kernel
theorem dX12_right_69 : decode cX12_right 69 = .ok (.imul, 1) := by decide +kernel
theorem dX12_right_70 : decode cX12_right 70 = .ok (.iload_n 2, 1) := by decide +kernel
theorem dX12_right_71 : decode cX12_right 71 = .ok (.iadd, 1) := by decide +kernel
theorem dX12_right_72 : decode cX12_right 72 = .ok (.iaload, 1) := by decide +kernel
theorem dX12_right_73 : decode cX12_right 73 = .ok (.istore 4, 2) := by decide +kernel
theorem dX12_right_75 : decode cX12_right 75 = .ok (.aload_n 0, 1) := by decide +kernel
theorem dX12_right_76 : decode cX12_right 76 = .ok (.getfield 23, 3) := by decide +kernel
theorem dX12_right_79 : decode cX12_right 79 = .ok (.iconst 2, 1) := by decide +kernel
theorem dX12_right_80 : decode cX12_right 80 = .ok (.iload_n 1, 1) := by decide +kernel
theorem dX12_right_81 : decode cX12_right 81 = .ok (.imul, 1) := by decide +kernel
theorem dX12_right_82 : decode cX12_right 82 = .ok (.iload_n 2, 1) := by decide +kernel
theorem dX12_right_83 : decode cX12_right 83 = .ok (.iadd, 1) := by decide +kernel
theorem dX12_right_84 : decode cX12_right 84 = .ok (.iload_n 3, 1) := by decide +kernel
theorem dX12_right_85 : decode cX12_right 85 = .ok (.iastore, 1) := by decide +kernel
theorem dX12_right_86 : decode cX12_right 86 = .ok (.aload_n 0, 1) := by decide +kernel
theorem dX12_right_87 : decode cX12_right 87 = .ok (.getfield 26, 3) := by decide +kernel
theorem dX12_right_90 : decode cX12_right 90 = .ok (.iconst 2, 1) := by decide +kernel
theorem dX12_right_91 : decode cX12_right 91 = .ok (.iload_n 1, 1) := by decide +kernel
theorem dX12_right_92 : decode cX12_right 92 = .ok (.imul, 1) := by decide +kernel
theorem dX12_right_93 : decode cX12_right 93 = .ok (.iload_n 2, 1) := by decide +kernel
theorem dX12_right_94 : decode cX12_right 94 = .ok (.iadd, 1) := by decide +kernel
theorem dX12_right_95 : decode cX12_right 95 = .ok (.aload_n 0, 1) := by decide +kernel
theorem dX12_right_96 : decode cX12_right 96 = .ok (.getfield 234, 3) := by decide +kernel
theorem dX12_right_99 : decode cX12_right 99 = .ok (.ifCond .lt 21, 3) := by decide +kernel
theorem dX12_right_102 : decode cX12_right 102 = .ok (.aload_n 0, 1) := by decide +kernel
theorem dX12_right_103 : decode cX12_right 103 = .ok (.getfield 273, 3) := by decide +kernel
theorem dX12_right_106 : decode cX12_right 106 = .ok (.aload_n 0, 1) := by decide +kernel
theorem dX12_right_107 : decode cX12_right 107 = .ok (.getfield 234, 3) := by decide +kernel
theorem dX12_right_110 : decode cX12_right 110 = .ok (.isub, 1) := by decide +kernel
theorem dX12_right_111 : decode cX12_right 111 = .ok (.aload_n 0, 1) := by decide +kernel
theorem dX12_right_112 : decode cX12_right 112 = .ok (.getfield 122, 3) := by decide +kernel
theorem dX12_right_115 : decode cX12_right 115 = .ok (.iconst 2, 1) := by decide +kernel
theorem dX12_right_116 : decode cX12_right 116 = .ok (.iaload, 1) := by decide +kernel
theorem dX12_right_117 : decode cX12_right 117 = .ok (.if_icmp .gt 7, 3) := by decide +kernel
theorem dX12_right_120 : decode cX12_right 120 = .ok (.iload_n 3, 1) := by decide +kernel
theorem dX12_right_121 : decode cX12_right 121 = .ok (.goto 13, 3) := by decide +kernel
theorem dX12_right_124 : decode cX12_right 124 = .ok (.aload_n 0, 1) := by decide +kernel
theorem dX12_right_125 : decode cX12_right 125 = .ok (.getfield 26, 3) := by decide +kernel
theorem dX12_right_128 : decode cX12_right 128 = .ok (.iconst 2, 1) := by decide +kernel
theorem dX12_right_129 : decode cX12_right 129 = .ok (.iload_n 1, 1) := by decide +kernel
theorem dX12_right_130 : decode cX12_right 130 = .ok (.imul, 1) := by decide +kernel
theorem dX12_right_131 : decode cX12_right 131 = .ok (.iload_n 2, 1) := by decide +kernel
theorem dX12_right_132 : decode cX12_right 132 = .ok (.iadd, 1) := by decide +kernel
theorem dX12_right_133 : decode cX12_right 133 = .ok (.iaload, 1) := by decide +kernel
theorem dX12_right_134 : decode cX12_right 134 = .ok (.iastore, 1) := by decide +kernel
theorem dX12_right_135 : decode cX12_right 135 = .ok (.iload 4, 2) := by decide +kernel
theorem dX12_right_137 : decode cX12_right 137 = .ok (.ireturn, 1) := by decide +kernel
theorem dX12_pointsOf_0 : decode cX12_pointsOf 0 = .ok (.aload_n 0, 1) := by decide +kernel
theorem dX12_pointsOf_1 : decode cX12_pointsOf 1 = .ok (.getfield 273, 3) := by decide +kernel
theorem dX12_pointsOf_4 : decode cX12_pointsOf 4 = .ok (.aload_n 0, 1) := by decide +kernel
theorem dX12_pointsOf_5 : decode cX12_pointsOf 5 = .ok (.getfield 17, 3) := by decide +kernel
theorem dX12_pointsOf_8 : decode cX12_pointsOf 8 = .ok (.iload_n 1, 1) := by decide +kernel
theorem dX12_pointsOf_9 : decode cX12_pointsOf 9 = .ok (.iaload, 1) := by decide +kernel
theorem dX12_pointsOf_10 : decode cX12_pointsOf 10 = .ok (.isub, 1) := by decide +kernel
theorem dX12_pointsOf_11 : decode cX12_pointsOf 11 = .ok (.sipush 365, 3) := by decide +kernel
theorem dX12_pointsOf_14 : decode cX12_pointsOf 14 = .ok (.idiv, 1) := by decide +kernel
theorem dX12_pointsOf_15 : decode cX12_pointsOf 15 = .ok (.istore_n 2, 1) := by decide +kernel
theorem dX12_pointsOf_16 : decode cX12_pointsOf 16 = .ok (.aload_n 0, 1) := by decide +kernel
theorem dX12_pointsOf_17 : decode cX12_pointsOf 17 = .ok (.getfield 273, 3) := by decide +kernel
theorem dX12_pointsOf_20 : decode cX12_pointsOf 20 = .ok (.aload_n 0, 1) := by decide +kernel
theorem dX12_pointsOf_21 : decode cX12_pointsOf 21 = .ok (.getfield 20, 3) := by decide +kernel
theorem dX12_pointsOf_24 : decode cX12_pointsOf 24 = .ok (.iload_n 1, 1) := by decide +kernel
theorem dX12_pointsOf_25 : decode cX12_pointsOf 25 = .ok (.iaload, 1) := by decide +kernel
theorem dX12_pointsOf_26 : decode cX12_pointsOf 26 = .ok (.isub, 1) := by decide +kernel
theorem dX12_pointsOf_27 : decode cX12_pointsOf 27 = .ok (.sipush 365, 3) := by decide +kernel
theorem dX12_pointsOf_30 : decode cX12_pointsOf 30 = .ok (.idiv, 1) := by decide +kernel
theorem dX12_pointsOf_31 : decode cX12_pointsOf 31 = .ok (.istore_n 3, 1) := by decide +kernel
theorem dX12_pointsOf_32 : decode cX12_pointsOf 32 = .ok (.aload_n 0, 1) := by decide +kernel
theorem dX12_pointsOf_33 : decode cX12_pointsOf 33 = .ok (.getfield 231, 3) := by decide +kernel
theorem dX12_pointsOf_36 : decode cX12_pointsOf 36 = .ok (.iconst 0, 1) := by decide +kernel
theorem dX12_pointsOf_37 : decode cX12_pointsOf 37 = .ok (.iaload, 1) := by decide +kernel
theorem dX12_pointsOf_38 : decode cX12_pointsOf 38 = .ok (.iload_n 2, 1) := by decide +kernel
theorem dX12_pointsOf_39 : decode cX12_pointsOf 39 = .ok (.imul, 1) := by decide +kernel
theorem dX12_pointsOf_40 : decode cX12_pointsOf 40 = .ok (.aload_n 0, 1) := by decide +kernel
theorem dX12_pointsOf_41 : decode cX12_pointsOf 41 = .ok (.getfield 231, 3) := by decide +kernel
theorem dX12_pointsOf_44 : decode cX12_pointsOf 44 = .ok (.iconst 1, 1) := by decide +kernel
theorem dX12_pointsOf_45 : decode cX12_pointsOf 45 = .ok (.iaload, 1) := by decide +kernel
theorem dX12_pointsOf_46 : decode cX12_pointsOf 46 = .ok (.iload_n 3, 1) := by decide +kernel
theorem dX12_pointsOf_47 : decode cX12_pointsOf 47 = .ok (.imul, 1) := by decide +kernel
theorem dX12_pointsOf_48 : decode cX12_pointsOf 48 = .ok (.iadd, 1) := by decide +kernel
theorem dX12_pointsOf_49 : decode cX12_pointsOf 49 = .ok (.aload_n 0, 1) := by decide +kernel
theorem dX12_pointsOf_50 : decode cX12_pointsOf 50 = .ok (.getfield 231, 3) := by decide +kernel
theorem dX12_pointsOf_53 : decode cX12_pointsOf 53 = .ok (.iconst 2, 1) := by decide +kernel
theorem dX12_pointsOf_54 : decode cX12_pointsOf 54 = .ok (.iaload, 1) := by decide +kernel
theorem dX12_pointsOf_55 : decode cX12_pointsOf 55 = .ok (.aload_n 0, 1) := by decide +kernel
theorem dX12_pointsOf_56 : decode cX12_pointsOf 56 = .ok (.getfield 26, 3) := by decide +kernel
theorem dX12_pointsOf_59 : decode cX12_pointsOf 59 = .ok (.iconst 2, 1) := by decide +kernel
theorem dX12_pointsOf_60 : decode cX12_pointsOf 60 = .ok (.iload_n 1, 1) := by decide +kernel
theorem dX12_pointsOf_61 : decode cX12_pointsOf 61 = .ok (.imul, 1) := by decide +kernel
theorem dX12_pointsOf_62 : decode cX12_pointsOf 62 = .ok (.iaload, 1) := by decide +kernel
theorem dX12_pointsOf_63 : decode cX12_pointsOf 63 = .ok (.imul, 1) := by decide +kernel
theorem dX12_pointsOf_64 : decode cX12_pointsOf 64 = .ok (.iadd, 1) := by decide +kernel
theorem dX12_pointsOf_65 : decode cX12_pointsOf 65 = .ok (.aload_n 0, 1) := by decide +kernel
theorem dX12_pointsOf_66 : decode cX12_pointsOf 66 = .ok (.getfield 231, 3) := by decide +kernel
theorem dX12_pointsOf_69 : decode cX12_pointsOf 69 = .ok (.iconst 3, 1) := by decide +kernel
theorem dX12_pointsOf_70 : decode cX12_pointsOf 70 = .ok (.iaload, 1) := by decide +kernel
theorem dX12_pointsOf_71 : decode cX12_pointsOf 71 = .ok (.aload_n 0, 1) := by decide +kernel
theorem dX12_pointsOf_72 : decode cX12_pointsOf 72 = .ok (.getfield 26, 3) := by decide +kernel
theorem dX12_pointsOf_75 : decode cX12_pointsOf 75 = .ok (.iconst 2, 1) := by decide +kernel
theorem dX12_pointsOf_76 : decode cX12_pointsOf 76 = .ok (.iload_n 1, 1) := by decide +kernel
theorem dX12_pointsOf_77 : decode cX12_pointsOf 77 = .ok (.imul, 1) := by decide +kernel
theorem dX12_pointsOf_78 : decode cX12_pointsOf 78 = .ok (.iconst 1, 1) := by decide +kernel
theorem dX12_pointsOf_79 : decode cX12_pointsOf 79 = .ok (.iadd, 1) := by decide +kernel
theorem dX12_pointsOf_80 : decode cX12_pointsOf 80 = .ok (.iaload, 1) := by decide +kernel
theorem dX12_pointsOf_81 : decode cX12_pointsOf 81 = .ok (.imul, 1) := by decide +kernel
theorem dX12_pointsOf_82 : decode cX12_pointsOf 82 = .ok (.iadd, 1) := by decide +kernel
theorem dX12_pointsOf_83 : decode cX12_pointsOf 83 = .ok (.ireturn, 1) := by decide +kernel
theorem dX12_points_0 : decode cX12_points 0 = .ok (.aload_n 0, 1) := by decide +kernel
theorem dX12_points_1 : decode cX12_points 1 = .ok (.iload_n 1, 1) := by decide +kernel
theorem dX12_points_2 : decode cX12_points 2 = .ok (.invokevirtual 284, 3) := by decide +kernel
theorem dX12_points_5 : decode cX12_points 5 = .ok (.ifCond .eq 11, 3) := by decide +kernel
theorem dX12_points_8 : decode cX12_points 8 = .ok (.aload_n 0, 1) := by decide +kernel
theorem dX12_points_9 : decode cX12_points 9 = .ok (.iload_n 1, 1) := by decide +kernel
theorem dX12_points_10 : decode cX12_points 10 = .ok (.invokevirtual 505, 3) := by decide +kernel
theorem dX12_points_13 : decode cX12_points 13 = .ok (.goto 8, 3) := by decide +kernel
theorem dX12_points_16 : decode cX12_points 16 = .ok (.aload_n 0, 1) := by decide +kernel
theorem dX12_points_17 : decode cX12_points 17 = .ok (.iconst (-1), 1) := by decide +kernel
theorem dX12_points_18 : decode cX12_points 18 = .ok (.invokevirtual 269, 3) := by decide +kernel
theorem dX12_points_21 : decode cX12_points 21 = .ok (.ireturn, 1) := by decide +kernel
theorem dX12_goesAhead_0 : decode cX12_goesAhead 0 = .ok (.aload_n 0, 1) := by decide +kernel
theorem dX12_goesAhead_1 : decode cX12_goesAhead 1 = .ok (.iload_n 1, 1) := by decide +kernel
theorem dX12_goesAhead_2 : decode cX12_goesAhead 2 = .ok (.invokevirtual 505, 3) := by decide +kernel
theorem dX12_goesAhead_5 : decode cX12_goesAhead 5 = .ok (.aload_n 0, 1) := by decide +kernel
theorem dX12_goesAhead_6 : decode cX12_goesAhead 6 = .ok (.iload_n 2, 1) := by decide +kernel
theorem dX12_goesAhead_7 : decode cX12_goesAhead 7 = .ok (.invokevirtual 505, 3) := by decide +kernel
theorem dX12_goesAhead_10 : decode cX12_goesAhead 10 = .ok (.if_icmp .eq 22, 3) := by decide +kernel
theorem dX12_goesAhead_13 : decode cX12_goesAhead 13 = .ok (.aload_n 0, 1) := by decide +kernel
theorem dX12_goesAhead_14 : decode cX12_goesAhead 14 = .ok (.iload_n 1, 1) := by decide +kernel
theorem dX12_goesAhead_15 : decode cX12_goesAhead 15 = .ok (.invokevirtual 505, 3) := by decide +kernel
theorem dX12_goesAhead_18 : decode cX12_goesAhead 18 = .ok (.aload_n 0, 1) := by decide +kernel
theorem dX12_goesAhead_19 : decode cX12_goesAhead 19 = .ok (.iload_n 2, 1) := by decide +kernel
theorem dX12_goesAhead_20 : decode cX12_goesAhead 20 = .ok (.invokevirtual 505, 3) := by decide +kernel
theorem dX12_goesAhead_23 : decode cX12_goesAhead 23 = .ok (.if_icmp .ge 7, 3) := by decide +kernel
theorem dX12_goesAhead_26 : decode cX12_goesAhead 26 = .ok (.iconst 1, 1) := by decide +kernel
theorem dX12_goesAhead_27 : decode cX12_goesAhead 27 = .ok (.goto 4, 3) := by decide +kernel
theorem dX12_goesAhead_30 : decode cX12_goesAhead 30 = .ok (.iconst 0, 1) := by decide +kernel
theorem dX12_goesAhead_31 : decode cX12_goesAhead 31 = .ok (.ireturn, 1) := by decide +kernel
theorem dX12_goesAhead_32 : decode cX12_goesAhead 32 = .ok (.aload_n 0, 1) := by decide +kernel
theorem dX12_goesAhead_33 : decode cX12_goesAhead 33 = .ok (.getfield 20, 3) := by decide +kernel
theorem dX12_goesAhead_36 : decode cX12_goesAhead 36 = .ok (.iload_n 1, 1) := by decide +kernel
theorem dX12_goesAhead_37 : decode cX12_goesAhead 37 = .ok (.iaload, 1) := by decide +kernel
theorem dX12_goesAhead_38 : decode cX12_goesAhead 38 = .ok (.aload_n 0, 1) := by decide +kernel
theorem dX12_goesAhead_39 : decode cX12_goesAhead 39 = .ok (.getfield 20, 3) := by decide +kernel
theorem dX12_goesAhead_42 : decode cX12_goesAhead 42 = .ok (.iload_n 2, 1) := by decide +kernel
theorem dX12_goesAhead_43 : decode cX12_goesAhead 43 = .ok (.iaload, 1) := by decide +kernel
theorem dX12_goesAhead_44 : decode cX12_goesAhead 44 = .ok (.if_icmp .eq 26, 3) := by decide +kernel
theorem dX12_goesAhead_47 : decode cX12_goesAhead 47 = .ok (.aload_n 0, 1) := by decide +kernel
theorem dX12_goesAhead_48 : decode cX12_goesAhead 48 = .ok (.getfield 20, 3) := by decide +kernel
theorem dX12_goesAhead_51 : decode cX12_goesAhead 51 = .ok (.iload_n 1, 1) := by decide +kernel
theorem dX12_goesAhead_52 : decode cX12_goesAhead 52 = .ok (.iaload, 1) := by decide +kernel
theorem dX12_goesAhead_53 : decode cX12_goesAhead 53 = .ok (.aload_n 0, 1) := by decide +kernel
theorem dX12_goesAhead_54 : decode cX12_goesAhead 54 = .ok (.getfield 20, 3) := by decide +kernel
theorem dX12_goesAhead_57 : decode cX12_goesAhead 57 = .ok (.iload_n 2, 1) := by decide +kernel
theorem dX12_goesAhead_58 : decode cX12_goesAhead 58 = .ok (.iaload, 1) := by decide +kernel
theorem dX12_goesAhead_59 : decode cX12_goesAhead 59 = .ok (.if_icmp .le 7, 3) := by decide +kernel
theorem dX12_goesAhead_62 : decode cX12_goesAhead 62 = .ok (.iconst 1, 1) := by decide +kernel
theorem dX12_goesAhead_63 : decode cX12_goesAhead 63 = .ok (.goto 17, 3) := by decide +kernel
theorem dX12_goesAhead_66 : decode cX12_goesAhead 66 = .ok (.iconst 0, 1) := by decide +kernel
theorem dX12_goesAhead_67 : decode cX12_goesAhead 67 = .ok (.goto 13, 3) := by decide +kernel
theorem dX12_goesAhead_70 : decode cX12_goesAhead 70 = .ok (.iload_n 1, 1) := by decide +kernel
theorem dX12_goesAhead_71 : decode cX12_goesAhead 71 = .ok (.iload_n 2, 1) := by decide +kernel
theorem dX12_goesAhead_72 : decode cX12_goesAhead 72 = .ok (.if_icmp .le 7, 3) := by decide +kernel
theorem dX12_goesAhead_75 : decode cX12_goesAhead 75 = .ok (.iconst 1, 1) := by decide +kernel
theorem dX12_goesAhead_76 : decode cX12_goesAhead 76 = .ok (.goto 4, 3) := by decide +kernel
theorem dX12_goesAhead_79 : decode cX12_goesAhead 79 = .ok (.iconst 0, 1) := by decide +kernel
theorem dX12_goesAhead_80 : decode cX12_goesAhead 80 = .ok (.ireturn, 1) := by decide +kernel
theorem dX12_goes_0 : decode cX12_goes 0 = .ok (.iload_n 1, 1) := by decide +kernel
theorem dX12_goes_1 : decode cX12_goes 1 = .ok (.invokestatic 280, 3) := by decide +kernel
theorem dX12_goes_4 : decode cX12_goes 4 = .ok (.ifCond .ne 9, 3) := by decide +kernel
theorem dX12_goes_7 : decode cX12_goes 7 = .ok (.aload_n 0, 1) := by decide +kernel
theorem dX12_goes_8 : decode cX12_goes 8 = .ok (.iconst (-1), 1) := by decide +kernel
theorem dX12_goes_9 : decode cX12_goes 9 = .ok (.invokevirtual 269, 3) := by decide +kernel
theorem dX12_goes_12 : decode cX12_goes 12 = .ok (.ireturn, 1) := by decide +kernel
theorem dX12_goes_13 : decode cX12_goes 13 = .ok (.iload_n 2, 1) := by decide +kernel
theorem dX12_goes_14 : decode cX12_goes 14 = .ok (.ifCond .ge 10, 3) := by decide +kernel
theorem dX12_goes_17 : decode cX12_goes 17 = .ok (.aload_n 0, 1) := by decide +kernel
theorem dX12_goes_18 : decode cX12_goes 18 = .ok (.bipush (-4), 2) := by decide +kernel
theorem dX12_goes_20 : decode cX12_goes 20 = .ok (.invokevirtual 269, 3) := by decide +kernel
theorem dX12_goes_23 : decode cX12_goes 23 = .ok (.ireturn, 1) := by decide +kernel
theorem dX12_goes_24 : decode cX12_goes 24 = .ok (.iload_n 2, 1) := by decide +kernel
theorem dX12_goes_25 : decode cX12_goes 25 = .ok (.bipush 24, 2) := by decide +kernel
theorem dX12_goes_27 : decode cX12_goes 27 = .ok (.if_icmp .le 10, 3) := by decide +kernel
theorem dX12_goes_30 : decode cX12_goes 30 = .ok (.aload_n 0, 1) := by decide +kernel
theorem dX12_goes_31 : decode cX12_goes 31 = .ok (.bipush (-6), 2) := by decide +kernel
theorem dX12_goes_33 : decode cX12_goes 33 = .ok (.invokevirtual 269, 3) := by decide +kernel
theorem dX12_goes_36 : decode cX12_goes 36 = .ok (.ireturn, 1) := by decide +kernel
theorem dX12_goes_37 : decode cX12_goes 37 = .ok (.iconst 0, 1) := by decide +kernel
theorem dX12_goes_38 : decode cX12_goes 38 = .ok (.istore 4, 2) := by decide +kernel
theorem dX12_goes_40 : decode cX12_goes 40 = .ok (.iload 4, 2) := by decide +kernel
theorem dX12_goes_42 : decode cX12_goes 42 = .ok (.aload_n 0, 1) := by decide +kernel
theorem dX12_goes_43 : decode cX12_goes 43 = .ok (.getfield 266, 3) := by decide +kernel
theorem dX12_goes_46 : decode cX12_goes 46 = .ok (.if_icmp .ge 114, 3) := by decide +kernel
theorem dX12_goes_49 : decode cX12_goes 49 = .ok (.iconst 0, 1) := by decide +kernel
theorem dX12_goes_50 : decode cX12_goes 50 = .ok (.istore 5, 2) := by decide +kernel
theorem dX12_goes_52 : decode cX12_goes 52 = .ok (.iconst 0, 1) := by decide +kernel
theorem dX12_goes_53 : decode cX12_goes 53 = .ok (.istore 6, 2) := by decide +kernel
theorem dX12_goes_55 : decode cX12_goes 55 = .ok (.iload 6, 2) := by decide +kernel
theorem dX12_goes_57 : decode cX12_goes 57 = .ok (.aload_n 0, 1) := by decide +kernel
theorem dX12_goes_58 : decode cX12_goes 58 = .ok (.getfield 266, 3) := by decide +kernel
theorem dX12_goes_61 : decode cX12_goes 61 = .ok (.if_icmp .ge 58, 3) := by decide +kernel
theorem dX12_goes_64 : decode cX12_goes 64 = .ok (.iload 5, 2) := by decide +kernel
theorem dX12_goes_66 : decode cX12_goes 66 = .ok (.iload 6, 2) := by decide +kernel
theorem dX12_goes_68 : decode cX12_goes 68 = .ok (.iload 4, 2) := by decide +kernel
theorem dX12_goes_70 : decode cX12_goes 70 = .ok (.if_icmp .eq 39, 3) := by decide +kernel
theorem dX12_goes_73 : decode cX12_goes 73 = .ok (.aload_n 0, 1) := by decide +kernel
theorem dX12_goes_74 : decode cX12_goes 74 = .ok (.getfield 13, 3) := by decide +kernel
theorem dX12_goes_77 : decode cX12_goes 77 = .ok (.iload 6, 2) := by decide +kernel
theorem dX12_goes_79 : decode cX12_goes 79 = .ok (.iaload, 1) := by decide +kernel
theorem dX12_goes_80 : decode cX12_goes 80 = .ok (.iload_n 1, 1) := by decide +kernel
theorem dX12_goes_81 : decode cX12_goes 81 = .ok (.if_icmp .ne 28, 3) := by decide +kernel
theorem dX12_goes_84 : decode cX12_goes 84 = .ok (.aload_n 0, 1) := by decide +kernel
theorem dX12_goes_85 : decode cX12_goes 85 = .ok (.getfield 29, 3) := by decide +kernel
theorem dX12_goes_88 : decode cX12_goes 88 = .ok (.iload 6, 2) := by decide +kernel
theorem dX12_goes_90 : decode cX12_goes 90 = .ok (.baload, 1) := by decide +kernel
theorem dX12_goes_91 : decode cX12_goes 91 = .ok (.ifCond .ne 18, 3) := by decide +kernel
theorem dX12_goes_94 : decode cX12_goes 94 = .ok (.aload_n 0, 1) := by decide +kernel
theorem dX12_goes_95 : decode cX12_goes 95 = .ok (.iload 6, 2) := by decide +kernel
theorem dX12_goes_97 : decode cX12_goes 97 = .ok (.iload 4, 2) := by decide +kernel
theorem dX12_goes_99 : decode cX12_goes 99 = .ok (.invokevirtual 508, 3) := by decide +kernel
theorem dX12_goes_102 : decode cX12_goes 102 = .ok (.ifCond .eq 7, 3) := by decide +kernel
theorem dX12_goes_105 : decode cX12_goes 105 = .ok (.iconst 1, 1) := by decide +kernel
theorem dX12_goes_106 : decode cX12_goes 106 = .ok (.goto 4, 3) := by decide +kernel
theorem dX12_goes_109 : decode cX12_goes 109 = .ok (.iconst 0, 1) := by decide +kernel
theorem dX12_goes_110 : decode cX12_goes 110 = .ok (.iadd, 1) := by decide +kernel
theorem dX12_goes_111 : decode cX12_goes 111 = .ok (.istore 5, 2) := by decide +kernel
theorem dX12_goes_113 : decode cX12_goes 113 = .ok (.iinc 6 1, 3) := by decide +kernel
theorem dX12_goes_116 : decode cX12_goes 116 = .ok (.goto (-61), 3) := by decide +kernel
theorem dX12_goes_119 : decode cX12_goes 119 = .ok (.aload_n 0, 1) := by decide +kernel
theorem dX12_goes_120 : decode cX12_goes 120 = .ok (.getfield 13, 3) := by decide +kernel
theorem dX12_goes_123 : decode cX12_goes 123 = .ok (.iload 4, 2) := by decide +kernel
theorem dX12_goes_125 : decode cX12_goes 125 = .ok (.iaload, 1) := by decide +kernel
theorem dX12_goes_126 : decode cX12_goes 126 = .ok (.iload_n 1, 1) := by decide +kernel
theorem dX12_goes_127 : decode cX12_goes 127 = .ok (.if_icmp .ne 27, 3) := by decide +kernel
theorem dX12_goes_130 : decode cX12_goes 130 = .ok (.aload_n 0, 1) := by decide +kernel
theorem dX12_goes_131 : decode cX12_goes 131 = .ok (.getfield 29, 3) := by decide +kernel
theorem dX12_goes_134 : decode cX12_goes 134 = .ok (.iload 4, 2) := by decide +kernel
theorem dX12_goes_136 : decode cX12_goes 136 = .ok (.baload, 1) := by decide +kernel
theorem dX12_goes_137 : decode cX12_goes 137 = .ok (.ifCond .ne 17, 3) := by decide +kernel
theorem dX12_goes_140 : decode cX12_goes 140 = .ok (.iload 5, 2) := by decide +kernel
theorem dX12_goes_142 : decode cX12_goes 142 = .ok (.iload_n 3, 1) := by decide +kernel
theorem dX12_goes_143 : decode cX12_goes 143 = .ok (.if_icmp .ne 11, 3) := by decide +kernel
theorem dX12_goes_146 : decode cX12_goes 146 = .ok (.iload_n 3, 1) := by decide +kernel
theorem dX12_goes_147 : decode cX12_goes 147 = .ok (.iload_n 2, 1) := by decide +kernel
theorem dX12_goes_148 : decode cX12_goes 148 = .ok (.if_icmp .ge 6, 3) := by decide +kernel
theorem dX12_goes_151 : decode cX12_goes 151 = .ok (.iload 4, 2) := by decide +kernel
theorem dX12_goes_153 : decode cX12_goes 153 = .ok (.ireturn, 1) := by decide +kernel
theorem dX12_goes_154 : decode cX12_goes 154 = .ok (.iinc 4 1, 3) := by decide +kernel
theorem dX12_goes_157 : decode cX12_goes 157 = .ok (.goto (-117), 3) := by decide +kernel
theorem dX12_goes_160 : decode cX12_goes 160 = .ok (.bipush (-9), 2) := by decide +kernel
theorem dX12_goes_162 : decode cX12_goes 162 = .ok (.ireturn, 1) := by decide +kernel
theorem dX12_planned_0 : decode cX12_planned 0 = .ok (.iload_n 1, 1) := by decide +kernel
theorem dX12_planned_1 : decode cX12_planned 1 = .ok (.iconst 1, 1) := by decide +kernel
theorem dX12_planned_2 : decode cX12_planned 2 = .ok (.if_icmp .lt 11, 3) := by decide +kernel
theorem dX12_planned_5 : decode cX12_planned 5 = .ok (.iload_n 2, 1) := by decide +kernel
theorem dX12_planned_6 : decode cX12_planned 6 = .ok (.ifCond .lt 7, 3) := by decide +kernel
theorem dX12_planned_9 : decode cX12_planned 9 = .ok (.iload_n 3, 1) := by decide +kernel
theorem dX12_planned_10 : decode cX12_planned 10 = .ok (.ifCond .ge 10, 3) := by decide +kernel
theorem dX12_planned_13 : decode cX12_planned 13 = .ok (.aload_n 0, 1) := by decide +kernel
theorem dX12_planned_14 : decode cX12_planned 14 = .ok (.bipush (-4), 2) := by decide +kernel
theorem dX12_planned_16 : decode cX12_planned 16 = .ok (.invokevirtual 269, 3) := by decide +kernel
theorem dX12_planned_19 : decode cX12_planned 19 = .ok (.ireturn, 1) := by decide +kernel
theorem dX12_planned_20 : decode cX12_planned 20 = .ok (.iload_n 3, 1) := by decide +kernel
theorem dX12_planned_21 : decode cX12_planned 21 = .ok (.iconst 1, 1) := by decide +kernel
theorem dX12_planned_22 : decode cX12_planned 22 = .ok (.aload_n 0, 1) := by decide +kernel
theorem dX12_planned_23 : decode cX12_planned 23 = .ok (.getfield 511, 3) := by decide +kernel
theorem dX12_planned_26 : decode cX12_planned 26 = .ok (.ishl, 1) := by decide +kernel
theorem dX12_planned_27 : decode cX12_planned 27 = .ok (.if_icmp .lt 10, 3) := by decide +kernel
theorem dX12_planned_30 : decode cX12_planned 30 = .ok (.aload_n 0, 1) := by decide +kernel
theorem dX12_planned_31 : decode cX12_planned 31 = .ok (.bipush (-3), 2) := by decide +kernel
theorem dX12_planned_33 : decode cX12_planned 33 = .ok (.invokevirtual 269, 3) := by decide +kernel
theorem dX12_planned_36 : decode cX12_planned 36 = .ok (.ireturn, 1) := by decide +kernel
theorem dX12_planned_37 : decode cX12_planned 37 = .ok (.iload_n 1, 1) := by decide +kernel
theorem dX12_planned_38 : decode cX12_planned 38 = .ok (.iconst 3, 1) := by decide +kernel
theorem dX12_planned_39 : decode cX12_planned 39 = .ok (.if_icmp .gt 18, 3) := by decide +kernel
theorem dX12_planned_42 : decode cX12_planned 42 = .ok (.iload_n 2, 1) := by decide +kernel
theorem dX12_planned_43 : decode cX12_planned 43 = .ok (.bipush 6, 2) := by decide +kernel
theorem dX12_planned_45 : decode cX12_planned 45 = .ok (.if_icmp .gt 12, 3) := by decide +kernel
theorem dX12_planned_48 : decode cX12_planned 48 = .ok (.aload_n 0, 1) := by decide +kernel
theorem dX12_planned_49 : decode cX12_planned 49 = .ok (.getfield 511, 3) := by decide +kernel
theorem dX12_planned_52 : decode cX12_planned 52 = .ok (.bipush 7, 2) := by decide +kernel
theorem dX12_planned_54 : decode cX12_planned 54 = .ok (.if_icmp .ne 10, 3) := by decide +kernel
theorem dX12_planned_57 : decode cX12_planned 57 = .ok (.aload_n 0, 1) := by decide +kernel
theorem dX12_planned_58 : decode cX12_planned 58 = .ok (.bipush (-6), 2) := by decide +kernel
theorem dX12_planned_60 : decode cX12_planned 60 = .ok (.invokevirtual 269, 3) := by decide +kernel
theorem dX12_planned_63 : decode cX12_planned 63 = .ok (.ireturn, 1) := by decide +kernel
theorem dX12_planned_64 : decode cX12_planned 64 = .ok (.aload_n 0, 1) := by decide +kernel
theorem dX12_planned_65 : decode cX12_planned 65 = .ok (.getfield 237, 3) := by decide +kernel
theorem dX12_planned_68 : decode cX12_planned 68 = .ok (.aload_n 0, 1) := by decide +kernel
theorem dX12_planned_69 : decode cX12_planned 69 = .ok (.getfield 511, 3) := by decide +kernel
theorem dX12_planned_72 : decode cX12_planned 72 = .ok (.iload_n 1, 1) := by decide +kernel
theorem dX12_planned_73 : decode cX12_planned 73 = .ok (.iastore, 1) := by decide +kernel
theorem dX12_planned_74 : decode cX12_planned 74 = .ok (.aload_n 0, 1) := by decide +kernel
theorem dX12_planned_75 : decode cX12_planned 75 = .ok (.getfield 240, 3) := by decide +kernel
theorem dX12_planned_78 : decode cX12_planned 78 = .ok (.aload_n 0, 1) := by decide +kernel
theorem dX12_planned_79 : decode cX12_planned 79 = .ok (.getfield 511, 3) := by decide +kernel
theorem dX12_planned_82 : decode cX12_planned 82 = .ok (.iload_n 2, 1) := by decide +kernel
theorem dX12_planned_83 : decode cX12_planned 83 = .ok (.iastore, 1) := by decide +kernel
theorem dX12_planned_84 : decode cX12_planned 84 = .ok (.aload_n 0, 1) := by decide +kernel
theorem dX12_planned_85 : decode cX12_planned 85 = .ok (.getfield 243, 3) := by decide +kernel
theorem dX12_planned_88 : decode cX12_planned 88 = .ok (.aload_n 0, 1) := by decide +kernel
theorem dX12_planned_89 : decode cX12_planned 89 = .ok (.getfield 511, 3) := by decide +kernel
theorem dX12_planned_92 : decode cX12_planned 92 = .ok (.iload_n 3, 1) := by decide +kernel
theorem dX12_planned_93 : decode cX12_planned 93 = .ok (.iastore, 1) := by decide +kernel
theorem dX12_planned_94 : decode cX12_planned 94 = .ok (.aload_n 0, 1) := by decide +kernel
theorem dX12_planned_95 : decode cX12_planned 95 = .ok (.dup, 1) := by decide +kernel
theorem dX12_planned_96 : decode cX12_planned 96 = .ok (.getfield 511, 3) := by decide +kernel
theorem dX12_planned_99 : decode cX12_planned 99 = .ok (.iconst 1, 1) := by decide +kernel
theorem dX12_planned_100 : decode cX12_planned 100 = .ok (.iadd, 1) := by decide +kernel
theorem dX12_planned_101 : decode cX12_planned 101 = .ok (.putfield 511, 3) := by decide +kernel
theorem dX12_planned_104 : decode cX12_planned 104 = .ok (.aload_n 0, 1) := by decide +kernel
theorem dX12_planned_105 : decode cX12_planned 105 = .ok (.getfield 511, 3) := by decide +kernel
theorem dX12_planned_108 : decode cX12_planned 108 = .ok (.iconst 1, 1) := by decide +kernel
theorem dX12_planned_109 : decode cX12_planned 109 = .ok (.isub, 1) := by decide +kernel
theorem dX12_planned_110 : decode cX12_planned 110 = .ok (.ireturn, 1) := by decide +kernel
theorem dX12_mayBeAt_0 : decode cX12_mayBeAt 0 = .ok (.aload_n 0, 1) := by decide +kernel
theorem dX12_mayBeAt_1 : decode cX12_mayBeAt 1 = .ok (.getfield 255, 3) := by decide +kernel
theorem dX12_mayBeAt_4 : decode cX12_mayBeAt 4 = .ok (.iload_n 2, 1) := by decide +kernel
theorem dX12_mayBeAt_5 : decode cX12_mayBeAt 5 = .ok (.iaload, 1) := by decide +kernel
theorem dX12_mayBeAt_6 : decode cX12_mayBeAt 6 = .ok (.aload_n 0, 1) := by decide +kernel
theorem dX12_mayBeAt_7 : decode cX12_mayBeAt 7 = .ok (.getfield 237, 3) := by decide +kernel
theorem dX12_mayBeAt_10 : decode cX12_mayBeAt 10 = .ok (.iload_n 1, 1) := by decide +kernel
theorem dX12_mayBeAt_11 : decode cX12_mayBeAt 11 = .ok (.iaload, 1) := by decide +kernel
theorem dX12_mayBeAt_12 : decode cX12_mayBeAt 12 = .ok (.iadd, 1) := by decide +kernel
theorem dX12_mayBeAt_13 : decode cX12_mayBeAt 13 = .ok (.aload_n 0, 1) := by decide +kernel
theorem dX12_mayBeAt_14 : decode cX12_mayBeAt 14 = .ok (.getfield 122, 3) := by decide +kernel
theorem dX12_mayBeAt_17 : decode cX12_mayBeAt 17 = .ok (.iconst 3, 1) := by decide +kernel
theorem dX12_mayBeAt_18 : decode cX12_mayBeAt 18 = .ok (.iaload, 1) := by decide +kernel
theorem dX12_mayBeAt_19 : decode cX12_mayBeAt 19 = .ok (.if_icmp .gt 7, 3) := by decide +kernel
theorem dX12_mayBeAt_22 : decode cX12_mayBeAt 22 = .ok (.iconst 1, 1) := by decide +kernel
theorem dX12_mayBeAt_23 : decode cX12_mayBeAt 23 = .ok (.goto 4, 3) := by decide +kernel
theorem dX12_mayBeAt_26 : decode cX12_mayBeAt 26 = .ok (.iconst 0, 1) := by decide +kernel
theorem dX12_mayBeAt_27 : decode cX12_mayBeAt 27 = .ok (.istore_n 3, 1) := by decide +kernel
theorem dX12_mayBeAt_28 : decode cX12_mayBeAt 28 = .ok (.iconst 0, 1) := by decide +kernel
theorem dX12_mayBeAt_29 : decode cX12_mayBeAt 29 = .ok (.istore 4, 2) := by decide +kernel
theorem dX12_mayBeAt_31 : decode cX12_mayBeAt 31 = .ok (.iload 4, 2) := by decide +kernel
theorem dX12_mayBeAt_33 : decode cX12_mayBeAt 33 = .ok (.iload_n 1, 1) := by decide +kernel
theorem dX12_mayBeAt_34 : decode cX12_mayBeAt 34 = .ok (.if_icmp .ge 44, 3) := by decide +kernel
theorem dX12_mayBeAt_37 : decode cX12_mayBeAt 37 = .ok (.iload_n 3, 1) := by decide +kernel
theorem dX12_mayBeAt_38 : decode cX12_mayBeAt 38 = .ok (.ifCond .eq 32, 3) := by decide +kernel
theorem dX12_mayBeAt_41 : decode cX12_mayBeAt 41 = .ok (.aload_n 0, 1) := by decide +kernel
theorem dX12_mayBeAt_42 : decode cX12_mayBeAt 42 = .ok (.getfield 243, 3) := by decide +kernel
theorem dX12_mayBeAt_45 : decode cX12_mayBeAt 45 = .ok (.iload_n 1, 1) := by decide +kernel
theorem dX12_mayBeAt_46 : decode cX12_mayBeAt 46 = .ok (.iaload, 1) := by decide +kernel
theorem dX12_mayBeAt_47 : decode cX12_mayBeAt 47 = .ok (.iload 4, 2) := by decide +kernel
theorem dX12_mayBeAt_49 : decode cX12_mayBeAt 49 = .ok (.ishr, 1) := by decide +kernel
theorem dX12_mayBeAt_50 : decode cX12_mayBeAt 50 = .ok (.iconst 1, 1) := by decide +kernel
theorem dX12_mayBeAt_51 : decode cX12_mayBeAt 51 = .ok (.iand, 1) := by decide +kernel
theorem dX12_mayBeAt_52 : decode cX12_mayBeAt 52 = .ok (.ifCond .eq 14, 3) := by decide +kernel
theorem dX12_mayBeAt_55 : decode cX12_mayBeAt 55 = .ok (.aload_n 0, 1) := by decide +kernel
theorem dX12_mayBeAt_56 : decode cX12_mayBeAt 56 = .ok (.getfield 246, 3) := by decide +kernel
theorem dX12_mayBeAt_59 : decode cX12_mayBeAt 59 = .ok (.iload 4, 2) := by decide +kernel
theorem dX12_mayBeAt_61 : decode cX12_mayBeAt 61 = .ok (.iaload, 1) := by decide +kernel
theorem dX12_mayBeAt_62 : decode cX12_mayBeAt 62 = .ok (.iload_n 2, 1) := by decide +kernel
theorem dX12_mayBeAt_63 : decode cX12_mayBeAt 63 = .ok (.if_icmp .ge 7, 3) := by decide +kernel
theorem dX12_mayBeAt_66 : decode cX12_mayBeAt 66 = .ok (.iconst 1, 1) := by decide +kernel
theorem dX12_mayBeAt_67 : decode cX12_mayBeAt 67 = .ok (.goto 4, 3) := by decide +kernel
theorem dX12_mayBeAt_70 : decode cX12_mayBeAt 70 = .ok (.iconst 0, 1) := by decide +kernel
theorem dX12_mayBeAt_71 : decode cX12_mayBeAt 71 = .ok (.istore_n 3, 1) := by decide +kernel
theorem dX12_mayBeAt_72 : decode cX12_mayBeAt 72 = .ok (.iinc 4 1, 3) := by decide +kernel
theorem dX12_mayBeAt_75 : decode cX12_mayBeAt 75 = .ok (.goto (-44), 3) := by decide +kernel
theorem dX12_mayBeAt_78 : decode cX12_mayBeAt 78 = .ok (.iload_n 3, 1) := by decide +kernel
theorem dX12_mayBeAt_79 : decode cX12_mayBeAt 79 = .ok (.ireturn, 1) := by decide +kernel
theorem dX12_findPlan_0 : decode cX12_findPlan 0 = .ok (.iconst (-1), 1) := by decide +kernel
theorem dX12_findPlan_1 : decode cX12_findPlan 1 = .ok (.istore_n 1, 1) := by decide +kernel
theorem dX12_findPlan_2 : decode cX12_findPlan 2 = .ok (.iconst 0, 1) := by decide +kernel
theorem dX12_findPlan_3 : decode cX12_findPlan 3 = .ok (.istore_n 2, 1) := by decide +kernel
theorem dX12_findPlan_4 : decode cX12_findPlan 4 = .ok (.iconst 0, 1) := by decide +kernel
theorem dX12_findPlan_5 : decode cX12_findPlan 5 = .ok (.istore_n 3, 1) := by decide +kernel
theorem dX12_findPlan_6 : decode cX12_findPlan 6 = .ok (.iload_n 3, 1) := by decide +kernel
theorem dX12_findPlan_7 : decode cX12_findPlan 7 = .ok (.bipush 7, 2) := by decide +kernel
theorem dX12_findPlan_9 : decode cX12_findPlan 9 = .ok (.if_icmp .ge 16, 3) := by decide +kernel
theorem dX12_findPlan_12 : decode cX12_findPlan 12 = .ok (.aload_n 0, 1) := by decide +kernel
theorem dX12_findPlan_13 : decode cX12_findPlan 13 = .ok (.getfield 255, 3) := by decide +kernel
theorem dX12_findPlan_16 : decode cX12_findPlan 16 = .ok (.iload_n 3, 1) := by decide +kernel
theorem dX12_findPlan_17 : decode cX12_findPlan 17 = .ok (.iconst 0, 1) := by decide +kernel
theorem dX12_findPlan_18 : decode cX12_findPlan 18 = .ok (.iastore, 1) := by decide +kernel
theorem dX12_findPlan_19 : decode cX12_findPlan 19 = .ok (.iinc 3 1, 3) := by decide +kernel
theorem dX12_findPlan_22 : decode cX12_findPlan 22 = .ok (.goto (-16), 3) := by decide +kernel
theorem dX12_findPlan_25 : decode cX12_findPlan 25 = .ok (.aload_n 0, 1) := by decide +kernel
theorem dX12_findPlan_26 : decode cX12_findPlan 26 = .ok (.getfield 252, 3) := by decide +kernel
theorem dX12_findPlan_29 : decode cX12_findPlan 29 = .ok (.iconst 0, 1) := by decide +kernel
theorem dX12_findPlan_30 : decode cX12_findPlan 30 = .ok (.iconst 0, 1) := by decide +kernel
theorem dX12_findPlan_31 : decode cX12_findPlan 31 = .ok (.iastore, 1) := by decide +kernel
theorem dX12_findPlan_32 : decode cX12_findPlan 32 = .ok (.aload_n 0, 1) := by decide +kernel
theorem dX12_findPlan_33 : decode cX12_findPlan 33 = .ok (.getfield 246, 3) := by decide +kernel
theorem dX12_findPlan_36 : decode cX12_findPlan 36 = .ok (.iconst 0, 1) := by decide +kernel
theorem dX12_findPlan_37 : decode cX12_findPlan 37 = .ok (.iconst (-1), 1) := by decide +kernel
theorem dX12_findPlan_38 : decode cX12_findPlan 38 = .ok (.iastore, 1) := by decide +kernel
theorem dX12_findPlan_39 : decode cX12_findPlan 39 = .ok (.iload_n 2, 1) := by decide +kernel
theorem dX12_findPlan_40 : decode cX12_findPlan 40 = .ok (.ifCond .lt 217, 3) := by decide +kernel
theorem dX12_findPlan_43 : decode cX12_findPlan 43 = .ok (.iload_n 2, 1) := by decide +kernel
theorem dX12_findPlan_44 : decode cX12_findPlan 44 = .ok (.aload_n 0, 1) := by decide +kernel
theorem dX12_findPlan_45 : decode cX12_findPlan 45 = .ok (.getfield 511, 3) := by decide +kernel
theorem dX12_findPlan_48 : decode cX12_findPlan 48 = .ok (.if_icmp .ne 44, 3) := by decide +kernel
theorem dX12_findPlan_51 : decode cX12_findPlan 51 = .ok (.aload_n 0, 1) := by decide +kernel
theorem dX12_findPlan_52 : decode cX12_findPlan 52 = .ok (.getfield 252, 3) := by decide +kernel
theorem dX12_findPlan_55 : decode cX12_findPlan 55 = .ok (.iload_n 2, 1) := by decide +kernel
theorem dX12_findPlan_56 : decode cX12_findPlan 56 = .ok (.iaload, 1) := by decide +kernel
theorem dX12_findPlan_57 : decode cX12_findPlan 57 = .ok (.istore_n 1, 1) := by decide +kernel
theorem dX12_findPlan_58 : decode cX12_findPlan 58 = .ok (.iconst 0, 1) := by decide +kernel
theorem dX12_findPlan_59 : decode cX12_findPlan 59 = .ok (.istore_n 3, 1) := by decide +kernel
theorem dX12_findPlan_60 : decode cX12_findPlan 60 = .ok (.iload_n 3, 1) := by decide +kernel
theorem dX12_findPlan_61 : decode cX12_findPlan 61 = .ok (.aload_n 0, 1) := by decide +kernel
theorem dX12_findPlan_62 : decode cX12_findPlan 62 = .ok (.getfield 511, 3) := by decide +kernel
theorem dX12_findPlan_65 : decode cX12_findPlan 65 = .ok (.if_icmp .ge 21, 3) := by decide +kernel
theorem dX12_findPlan_68 : decode cX12_findPlan 68 = .ok (.aload_n 0, 1) := by decide +kernel
theorem dX12_findPlan_69 : decode cX12_findPlan 69 = .ok (.getfield 249, 3) := by decide +kernel
theorem dX12_findPlan_72 : decode cX12_findPlan 72 = .ok (.iload_n 3, 1) := by decide +kernel
theorem dX12_findPlan_73 : decode cX12_findPlan 73 = .ok (.aload_n 0, 1) := by decide +kernel
theorem dX12_findPlan_74 : decode cX12_findPlan 74 = .ok (.getfield 246, 3) := by decide +kernel
theorem dX12_findPlan_77 : decode cX12_findPlan 77 = .ok (.iload_n 3, 1) := by decide +kernel
theorem dX12_findPlan_78 : decode cX12_findPlan 78 = .ok (.iaload, 1) := by decide +kernel
theorem dX12_findPlan_79 : decode cX12_findPlan 79 = .ok (.iastore, 1) := by decide +kernel
theorem dX12_findPlan_80 : decode cX12_findPlan 80 = .ok (.iinc 3 1, 3) := by decide +kernel
theorem dX12_findPlan_83 : decode cX12_findPlan 83 = .ok (.goto (-23), 3) := by decide +kernel
theorem dX12_findPlan_86 : decode cX12_findPlan 86 = .ok (.iinc 2 (-1), 3) := by decide +kernel
theorem dX12_findPlan_89 : decode cX12_findPlan 89 = .ok (.goto (-50), 3) := by decide +kernel
theorem dX12_findPlan_92 : decode cX12_findPlan 92 = .ok (.aload_n 0, 1) := by decide +kernel
theorem dX12_findPlan_93 : decode cX12_findPlan 93 = .ok (.getfield 246, 3) := by decide +kernel
theorem dX12_findPlan_96 : decode cX12_findPlan 96 = .ok (.iload_n 2, 1) := by decide +kernel
theorem dX12_findPlan_97 : decode cX12_findPlan 97 = .ok (.iaload, 1) := by decide +kernel
theorem dX12_findPlan_98 : decode cX12_findPlan 98 = .ok (.ifCond .lt 23, 3) := by decide +kernel
theorem dX12_findPlan_101 : decode cX12_findPlan 101 = .ok (.aload_n 0, 1) := by decide +kernel
theorem dX12_findPlan_102 : decode cX12_findPlan 102 = .ok (.getfield 255, 3) := by decide +kernel
theorem dX12_findPlan_105 : decode cX12_findPlan 105 = .ok (.aload_n 0, 1) := by decide +kernel
theorem dX12_findPlan_106 : decode cX12_findPlan 106 = .ok (.getfield 246, 3) := by decide +kernel
theorem dX12_findPlan_109 : decode cX12_findPlan 109 = .ok (.iload_n 2, 1) := by decide +kernel
theorem dX12_findPlan_110 : decode cX12_findPlan 110 = .ok (.iaload, 1) := by decide +kernel
theorem dX12_findPlan_111 : decode cX12_findPlan 111 = .ok (.dup2, 1) := by decide +kernel
theorem dX12_findPlan_112 : decode cX12_findPlan 112 = .ok (.iaload, 1) := by decide +kernel
theorem dX12_findPlan_113 : decode cX12_findPlan 113 = .ok (.aload_n 0, 1) := by decide +kernel
theorem dX12_findPlan_114 : decode cX12_findPlan 114 = .ok (.getfield 237, 3) := by decide +kernel
theorem dX12_findPlan_117 : decode cX12_findPlan 117 = .ok (.iload_n 2, 1) := by decide +kernel
theorem dX12_findPlan_118 : decode cX12_findPlan 118 = .ok (.iaload, 1) := by decide +kernel
theorem dX12_findPlan_119 : decode cX12_findPlan 119 = .ok (.isub, 1) := by decide +kernel
theorem dX12_findPlan_120 : decode cX12_findPlan 120 = .ok (.iastore, 1) := by decide +kernel
theorem dX12_findPlan_121 : decode cX12_findPlan 121 = .ok (.aload_n 0, 1) := by decide +kernel
theorem dX12_findPlan_122 : decode cX12_findPlan 122 = .ok (.getfield 246, 3) := by decide +kernel
theorem dX12_findPlan_125 : decode cX12_findPlan 125 = .ok (.iload_n 2, 1) := by decide +kernel
theorem dX12_findPlan_126 : decode cX12_findPlan 126 = .ok (.iaload, 1) := by decide +kernel
theorem dX12_findPlan_127 : decode cX12_findPlan 127 = .ok (.iconst 1, 1) := by decide +kernel
theorem dX12_findPlan_128 : decode cX12_findPlan 128 = .ok (.iadd, 1) := by decide +kernel
theorem dX12_findPlan_129 : decode cX12_findPlan 129 = .ok (.istore_n 3, 1) := by decide +kernel
theorem dX12_findPlan_130 : decode cX12_findPlan 130 = .ok (.iload_n 3, 1) := by decide +kernel
theorem dX12_findPlan_131 : decode cX12_findPlan 131 = .ok (.bipush 7, 2) := by decide +kernel
theorem dX12_findPlan_133 : decode cX12_findPlan 133 = .ok (.if_icmp .ge 18, 3) := by decide +kernel
theorem dX12_findPlan_136 : decode cX12_findPlan 136 = .ok (.aload_n 0, 1) := by decide +kernel
theorem dX12_findPlan_137 : decode cX12_findPlan 137 = .ok (.iload_n 2, 1) := by decide +kernel
theorem dX12_findPlan_138 : decode cX12_findPlan 138 = .ok (.iload_n 3, 1) := by decide +kernel
theorem dX12_findPlan_139 : decode cX12_findPlan 139 = .ok (.invokevirtual 514, 3) := by decide +kernel
theorem dX12_findPlan_142 : decode cX12_findPlan 142 = .ok (.ifCond .ne 9, 3) := by decide +kernel
theorem dX12_findPlan_145 : decode cX12_findPlan 145 = .ok (.iinc 3 1, 3) := by decide +kernel
theorem dX12_findPlan_148 : decode cX12_findPlan 148 = .ok (.goto (-18), 3) := by decide +kernel
theorem dX12_findPlan_151 : decode cX12_findPlan 151 = .ok (.iload_n 3, 1) := by decide +kernel
theorem dX12_findPlan_152 : decode cX12_findPlan 152 = .ok (.bipush 7, 2) := by decide +kernel
theorem dX12_findPlan_154 : decode cX12_findPlan 154 = .ok (.if_icmp .ne 9, 3) := by decide +kernel
theorem dX12_findPlan_157 : decode cX12_findPlan 157 = .ok (.iinc 2 (-1), 3) := by decide +kernel
theorem dX12_findPlan_160 : decode cX12_findPlan 160 = .ok (.goto (-121), 3) := by decide +kernel
theorem dX12_findPlan_163 : decode cX12_findPlan 163 = .ok (.aload_n 0, 1) := by decide +kernel
theorem dX12_findPlan_164 : decode cX12_findPlan 164 = .ok (.getfield 246, 3) := by decide +kernel
theorem dX12_findPlan_167 : decode cX12_findPlan 167 = .ok (.iload_n 2, 1) := by decide +kernel
theorem dX12_findPlan_168 : decode cX12_findPlan 168 = .ok (.iload_n 3, 1) := by decide +kernel
theorem dX12_findPlan_169 : decode cX12_findPlan 169 = .ok (.iastore, 1) := by decide +kernel
theorem dX12_findPlan_170 : decode cX12_findPlan 170 = .ok (.aload_n 0, 1) := by decide +kernel
theorem dX12_findPlan_171 : decode cX12_findPlan 171 = .ok (.getfield 255, 3) := by decide +kernel
theorem dX12_findPlan_174 : decode cX12_findPlan 174 = .ok (.iload_n 3, 1) := by decide +kernel
theorem dX12_findPlan_175 : decode cX12_findPlan 175 = .ok (.dup2, 1) := by decide +kernel
theorem dX12_findPlan_176 : decode cX12_findPlan 176 = .ok (.iaload, 1) := by decide +kernel
theorem dX12_findPlan_177 : decode cX12_findPlan 177 = .ok (.aload_n 0, 1) := by decide +kernel
theorem dX12_findPlan_178 : decode cX12_findPlan 178 = .ok (.getfield 237, 3) := by decide +kernel
theorem dX12_findPlan_181 : decode cX12_findPlan 181 = .ok (.iload_n 2, 1) := by decide +kernel
theorem dX12_findPlan_182 : decode cX12_findPlan 182 = .ok (.iaload, 1) := by decide +kernel
theorem dX12_findPlan_183 : decode cX12_findPlan 183 = .ok (.iadd, 1) := by decide +kernel
theorem dX12_findPlan_184 : decode cX12_findPlan 184 = .ok (.iastore, 1) := by decide +kernel
theorem dX12_findPlan_185 : decode cX12_findPlan 185 = .ok (.aload_n 0, 1) := by decide +kernel
theorem dX12_findPlan_186 : decode cX12_findPlan 186 = .ok (.getfield 252, 3) := by decide +kernel
theorem dX12_findPlan_189 : decode cX12_findPlan 189 = .ok (.iload_n 2, 1) := by decide +kernel
theorem dX12_findPlan_190 : decode cX12_findPlan 190 = .ok (.iconst 1, 1) := by decide +kernel
theorem dX12_findPlan_191 : decode cX12_findPlan 191 = .ok (.iadd, 1) := by decide +kernel
theorem dX12_findPlan_192 : decode cX12_findPlan 192 = .ok (.aload_n 0, 1) := by decide +kernel
theorem dX12_findPlan_193 : decode cX12_findPlan 193 = .ok (.getfield 252, 3) := by decide +kernel
theorem dX12_findPlan_196 : decode cX12_findPlan 196 = .ok (.iload_n 2, 1) := by decide +kernel
theorem dX12_findPlan_197 : decode cX12_findPlan 197 = .ok (.iaload, 1) := by decide +kernel
theorem dX12_findPlan_198 : decode cX12_findPlan 198 = .ok (.iload_n 3, 1) := by decide +kernel
theorem dX12_findPlan_199 : decode cX12_findPlan 199 = .ok (.aload_n 0, 1) := by decide +kernel
theorem dX12_findPlan_200 : decode cX12_findPlan 200 = .ok (.getfield 240, 3) := by decide +kernel
theorem dX12_findPlan_203 : decode cX12_findPlan 203 = .ok (.iload_n 2, 1) := by decide +kernel
theorem dX12_findPlan_204 : decode cX12_findPlan 204 = .ok (.iaload, 1) := by decide +kernel
theorem dX12_findPlan_205 : decode cX12_findPlan 205 = .ok (.if_icmp .le 14, 3) := by decide +kernel
theorem dX12_findPlan_208 : decode cX12_findPlan 208 = .ok (.iload_n 3, 1) := by decide +kernel
theorem dX12_findPlan_209 : decode cX12_findPlan 209 = .ok (.aload_n 0, 1) := by decide +kernel
theorem dX12_findPlan_210 : decode cX12_findPlan 210 = .ok (.getfield 240, 3) := by decide +kernel
theorem dX12_findPlan_213 : decode cX12_findPlan 213 = .ok (.iload_n 2, 1) := by decide +kernel
theorem dX12_findPlan_214 : decode cX12_findPlan 214 = .ok (.iaload, 1) := by decide +kernel
theorem dX12_findPlan_215 : decode cX12_findPlan 215 = .ok (.isub, 1) := by decide +kernel
theorem dX12_findPlan_216 : decode cX12_findPlan 216 = .ok (.goto 4, 3) := by decide +kernel
theorem dX12_findPlan_219 : decode cX12_findPlan 219 = .ok (.iconst 0, 1) := by decide +kernel
theorem dX12_findPlan_220 : decode cX12_findPlan 220 = .ok (.iadd, 1) := by decide +kernel
theorem dX12_findPlan_221 : decode cX12_findPlan 221 = .ok (.iastore, 1) := by decide +kernel
theorem dX12_findPlan_222 : decode cX12_findPlan 222 = .ok (.iload_n 1, 1) := by decide +kernel
theorem dX12_findPlan_223 : decode cX12_findPlan 223 = .ok (.ifCond .lt 15, 3) := by decide +kernel
theorem dX12_findPlan_226 : decode cX12_findPlan 226 = .ok (.aload_n 0, 1) := by decide +kernel
theorem dX12_findPlan_227 : decode cX12_findPlan 227 = .ok (.getfield 252, 3) := by decide +kernel
theorem dX12_findPlan_230 : decode cX12_findPlan 230 = .ok (.iload_n 2, 1) := by decide +kernel
theorem dX12_findPlan_231 : decode cX12_findPlan 231 = .ok (.iconst 1, 1) := by decide +kernel
theorem dX12_findPlan_232 : decode cX12_findPlan 232 = .ok (.iadd, 1) := by decide +kernel
theorem dX12_findPlan_233 : decode cX12_findPlan 233 = .ok (.iaload, 1) := by decide +kernel
theorem dX12_findPlan_234 : decode cX12_findPlan 234 = .ok (.iload_n 1, 1) := by decide +kernel
theorem dX12_findPlan_235 : decode cX12_findPlan 235 = .ok (.if_icmp .ge 19, 3) := by decide +kernel
theorem dX12_findPlan_238 : decode cX12_findPlan 238 = .ok (.iinc 2 1, 3) := by decide +kernel
theorem dX12_findPlan_241 : decode cX12_findPlan 241 = .ok (.iload_n 2, 1) := by decide +kernel
theorem dX12_findPlan_242 : decode cX12_findPlan 242 = .ok (.bipush 7, 2) := by decide +kernel
theorem dX12_findPlan_244 : decode cX12_findPlan 244 = .ok (.if_icmp .ge 10, 3) := by decide +kernel
theorem dX12_findPlan_247 : decode cX12_findPlan 247 = .ok (.aload_n 0, 1) := by decide +kernel
theorem dX12_findPlan_248 : decode cX12_findPlan 248 = .ok (.getfield 246, 3) := by decide +kernel
theorem dX12_findPlan_251 : decode cX12_findPlan 251 = .ok (.iload_n 2, 1) := by decide +kernel
theorem dX12_findPlan_252 : decode cX12_findPlan 252 = .ok (.iconst (-1), 1) := by decide +kernel
theorem dX12_findPlan_253 : decode cX12_findPlan 253 = .ok (.iastore, 1) := by decide +kernel
theorem dX12_findPlan_254 : decode cX12_findPlan 254 = .ok (.goto (-215), 3) := by decide +kernel
theorem dX12_findPlan_257 : decode cX12_findPlan 257 = .ok (.iload_n 1, 1) := by decide +kernel
theorem dX12_findPlan_258 : decode cX12_findPlan 258 = .ok (.ireturn, 1) := by decide +kernel
theorem dX12_plan_0 : decode cX12_plan 0 = .ok (.aload_n 0, 1) := by decide +kernel
theorem dX12_plan_1 : decode cX12_plan 1 = .ok (.invokevirtual 517, 3) := by decide +kernel
theorem dX12_plan_4 : decode cX12_plan 4 = .ok (.istore_n 1, 1) := by decide +kernel
theorem dX12_plan_5 : decode cX12_plan 5 = .ok (.iload_n 1, 1) := by decide +kernel
theorem dX12_plan_6 : decode cX12_plan 6 = .ok (.ifCond .ge 8, 3) := by decide +kernel
theorem dX12_plan_9 : decode cX12_plan 9 = .ok (.bipush (-9), 2) := by decide +kernel
theorem dX12_plan_11 : decode cX12_plan 11 = .ok (.goto 4, 3) := by decide +kernel
theorem dX12_plan_14 : decode cX12_plan 14 = .ok (.iload_n 1, 1) := by decide +kernel
theorem dX12_plan_15 : decode cX12_plan 15 = .ok (.ireturn, 1) := by decide +kernel
theorem dX12_placeOf_0 : decode cX12_placeOf 0 = .ok (.iload_n 1, 1) := by decide +kernel
theorem dX12_placeOf_1 : decode cX12_placeOf 1 = .ok (.iconst 0, 1) := by decide +kernel
theorem dX12_placeOf_2 : decode cX12_placeOf 2 = .ok (.aload_n 0, 1) := by decide +kernel
theorem dX12_placeOf_3 : decode cX12_placeOf 3 = .ok (.getfield 511, 3) := by decide +kernel
theorem dX12_placeOf_6 : decode cX12_placeOf 6 = .ok (.iconst 1, 1) := by decide +kernel
theorem dX12_placeOf_7 : decode cX12_placeOf 7 = .ok (.isub, 1) := by decide +kernel
theorem dX12_placeOf_8 : decode cX12_placeOf 8 = .ok (.invokestatic 262, 3) := by decide +kernel
theorem dX12_placeOf_11 : decode cX12_placeOf 11 = .ok (.ifCond .ne 9, 3) := by decide +kernel
theorem dX12_placeOf_14 : decode cX12_placeOf 14 = .ok (.aload_n 0, 1) := by decide +kernel
theorem dX12_placeOf_15 : decode cX12_placeOf 15 = .ok (.iconst (-1), 1) := by decide +kernel
theorem dX12_placeOf_16 : decode cX12_placeOf 16 = .ok (.invokevirtual 269, 3) := by decide +kernel
theorem dX12_placeOf_19 : decode cX12_placeOf 19 = .ok (.ireturn, 1) := by decide +kernel
theorem dX12_placeOf_20 : decode cX12_placeOf 20 = .ok (.aload_n 0, 1) := by decide +kernel
theorem dX12_placeOf_21 : decode cX12_placeOf 21 = .ok (.invokevirtual 517, 3) := by decide +kernel
theorem dX12_placeOf_24 : decode cX12_placeOf 24 = .ok (.ifCond .ge 8, 3) := by decide +kernel
theorem dX12_placeOf_27 : decode cX12_placeOf 27 = .ok (.bipush (-9), 2) := by decide +kernel
theorem dX12_placeOf_29 : decode cX12_placeOf 29 = .ok (.goto 9, 3) := by decide +kernel
theorem dX12_placeOf_32 : decode cX12_placeOf 32 = .ok (.aload_n 0, 1) := by decide +kernel
theorem dX12_placeOf_33 : decode cX12_placeOf 33 = .ok (.getfield 249, 3) := by decide +kernel
theorem dX12_placeOf_36 : decode cX12_placeOf 36 = .ok (.iload_n 1, 1) := by decide +kernel
theorem dX12_placeOf_37 : decode cX12_placeOf 37 = .ok (.iaload, 1) := by decide +kernel
theorem dX12_placeOf_38 : decode cX12_placeOf 38 = .ok (.ireturn, 1) := by decide +kernel
theorem dX12_put_0 : decode cX12_put 0 = .ok (.aload_n 0, 1) := by decide +kernel
theorem dX12_put_1 : decode cX12_put 1 = .ok (.getfield 520, 3) := by decide +kernel
theorem dX12_put_4 : decode cX12_put 4 = .ok (.bipush 40, 2) := by decide +kernel
theorem dX12_put_6 : decode cX12_put 6 = .ok (.if_icmp .ne 10, 3) := by decide +kernel
theorem dX12_put_9 : decode cX12_put 9 = .ok (.aload_n 0, 1) := by decide +kernel
theorem dX12_put_10 : decode cX12_put 10 = .ok (.bipush (-6), 2) := by decide +kernel
theorem dX12_put_12 : decode cX12_put 12 = .ok (.invokevirtual 269, 3) := by decide +kernel
theorem dX12_put_15 : decode cX12_put 15 = .ok (.ireturn, 1) := by decide +kernel
theorem dX12_put_16 : decode cX12_put 16 = .ok (.aload_n 0, 1) := by decide +kernel
theorem dX12_put_17 : decode cX12_put 17 = .ok (.getfield 258, 3) := by decide +kernel
theorem dX12_put_20 : decode cX12_put 20 = .ok (.aload_n 0, 1) := by decide +kernel
theorem dX12_put_21 : decode cX12_put 21 = .ok (.getfield 520, 3) := by decide +kernel
theorem dX12_put_24 : decode cX12_put 24 = .ok (.iload_n 1, 1) := by decide +kernel
theorem dX12_put_25 : decode cX12_put 25 = .ok (.iastore, 1) := by decide +kernel
theorem dX12_put_26 : decode cX12_put 26 = .ok (.aload_n 0, 1) := by decide +kernel
theorem dX12_put_27 : decode cX12_put 27 = .ok (.dup, 1) := by decide +kernel
theorem dX12_put_28 : decode cX12_put 28 = .ok (.getfield 520, 3) := by decide +kernel
theorem dX12_put_31 : decode cX12_put 31 = .ok (.iconst 1, 1) := by decide +kernel
theorem dX12_put_32 : decode cX12_put 32 = .ok (.iadd, 1) := by decide +kernel
theorem dX12_put_33 : decode cX12_put 33 = .ok (.putfield 520, 3) := by decide +kernel
theorem dX12_put_36 : decode cX12_put 36 = .ok (.aload_n 0, 1) := by decide +kernel
theorem dX12_put_37 : decode cX12_put 37 = .ok (.getfield 520, 3) := by decide +kernel
theorem dX12_put_40 : decode cX12_put 40 = .ok (.ireturn, 1) := by decide +kernel
theorem dX12_check_0 : decode cX12_check 0 = .ok (.iload_n 1, 1) := by decide +kernel
theorem dX12_check_1 : decode cX12_check 1 = .ok (.ifCond .lt 7, 3) := by decide +kernel
theorem dX12_check_4 : decode cX12_check 4 = .ok (.iload_n 2, 1) := by decide +kernel
theorem dX12_check_5 : decode cX12_check 5 = .ok (.ifCond .ge 10, 3) := by decide +kernel
theorem dX12_check_8 : decode cX12_check 8 = .ok (.aload_n 0, 1) := by decide +kernel
theorem dX12_check_9 : decode cX12_check 9 = .ok (.bipush (-4), 2) := by decide +kernel
theorem dX12_check_11 : decode cX12_check 11 = .ok (.invokevirtual 269, 3) := by decide +kernel
theorem dX12_check_14 : decode cX12_check 14 = .ok (.ireturn, 1) := by decide +kernel
theorem dX12_check_15 : decode cX12_check 15 = .ok (.iload_n 1, 1) := by decide +kernel
theorem dX12_check_16 : decode cX12_check 16 = .ok (.iload_n 2, 1) := by decide +kernel
theorem dX12_check_17 : decode cX12_check 17 = .ok (.if_icmp .gt 11, 3) := by decide +kernel
theorem dX12_check_20 : decode cX12_check 20 = .ok (.iload_n 2, 1) := by decide +kernel
theorem dX12_check_21 : decode cX12_check 21 = .ok (.aload_n 0, 1) := by decide +kernel
theorem dX12_check_22 : decode cX12_check 22 = .ok (.getfield 273, 3) := by decide +kernel
theorem dX12_check_25 : decode cX12_check 25 = .ok (.if_icmp .le 10, 3) := by decide +kernel
theorem dX12_check_28 : decode cX12_check 28 = .ok (.aload_n 0, 1) := by decide +kernel
theorem dX12_check_29 : decode cX12_check 29 = .ok (.bipush (-3), 2) := by decide +kernel
theorem dX12_check_31 : decode cX12_check 31 = .ok (.invokevirtual 269, 3) := by decide +kernel
theorem dX12_check_34 : decode cX12_check 34 = .ok (.ireturn, 1) := by decide +kernel
theorem dX12_check_35 : decode cX12_check 35 = .ok (.aload_n 0, 1) := by decide +kernel
theorem dX12_check_36 : decode cX12_check 36 = .ok (.getfield 520, 3) := by decide +kernel
theorem dX12_check_39 : decode cX12_check 39 = .ok (.istore_n 3, 1) := by decide +kernel
theorem dX12_check_40 : decode cX12_check 40 = .ok (.aload_n 0, 1) := by decide +kernel
theorem dX12_check_41 : decode cX12_check 41 = .ok (.iconst 0, 1) := by decide +kernel
theorem dX12_check_42 : decode cX12_check 42 = .ok (.putfield 520, 3) := by decide +kernel
theorem dX12_check_45 : decode cX12_check 45 = .ok (.iconst 0, 1) := by decide +kernel
theorem dX12_check_46 : decode cX12_check 46 = .ok (.istore 4, 2) := by decide +kernel
theorem dX12_check_48 : decode cX12_check 48 = .ok (.iload 4, 2) := by decide +kernel
theorem dX12_check_50 : decode cX12_check 50 = .ok (.iload_n 3, 1) := by decide +kernel
theorem dX12_check_51 : decode cX12_check 51 = .ok (.if_icmp .ge 50, 3) := by decide +kernel
theorem dX12_check_54 : decode cX12_check 54 = .ok (.iload 4, 2) := by decide +kernel
theorem dX12_check_56 : decode cX12_check 56 = .ok (.aload_n 0, 1) := by decide +kernel
theorem dX12_check_57 : decode cX12_check 57 = .ok (.getfield 381, 3) := by decide +kernel
theorem dX12_check_60 : decode cX12_check 60 = .ok (.if_icmp .ge 32, 3) := by decide +kernel
theorem dX12_check_63 : decode cX12_check 63 = .ok (.aload_n 0, 1) := by decide +kernel
theorem dX12_check_64 : decode cX12_check 64 = .ok (.getfield 86, 3) := by decide +kernel
theorem dX12_check_67 : decode cX12_check 67 = .ok (.iload 4, 2) := by decide +kernel
theorem dX12_check_69 : decode cX12_check 69 = .ok (.iaload, 1) := by decide +kernel
theorem dX12_check_70 : decode cX12_check 70 = .ok (.iload_n 1, 1) := by decide +kernel
theorem dX12_check_71 : decode cX12_check 71 = .ok (.if_icmp .gt 21, 3) := by decide +kernel
theorem dX12_check_74 : decode cX12_check 74 = .ok (.aload_n 0, 1) := by decide +kernel
theorem dX12_check_75 : decode cX12_check 75 = .ok (.iload 4, 2) := by decide +kernel
theorem dX12_check_77 : decode cX12_check 77 = .ok (.iload_n 1, 1) := by decide +kernel
theorem dX12_check_78 : decode cX12_check 78 = .ok (.iload_n 2, 1) := by decide +kernel
theorem dX12_check_79 : decode cX12_check 79 = .ok (.invokevirtual 402, 3) := by decide +kernel
theorem dX12_check_82 : decode cX12_check 82 = .ok (.aload_n 0, 1) := by decide +kernel
theorem dX12_check_83 : decode cX12_check 83 = .ok (.getfield 258, 3) := by decide +kernel
theorem dX12_check_86 : decode cX12_check 86 = .ok (.iload 4, 2) := by decide +kernel
theorem dX12_check_88 : decode cX12_check 88 = .ok (.iaload, 1) := by decide +kernel
theorem dX12_check_89 : decode cX12_check 89 = .ok (.if_icmp .eq 6, 3) := by decide +kernel
theorem dX12_check_92 : decode cX12_check 92 = .ok (.iload 4, 2) := by decide +kernel
theorem dX12_check_94 : decode cX12_check 94 = .ok (.ireturn, 1) := by decide +kernel
theorem dX12_check_95 : decode cX12_check 95 = .ok (.iinc 4 1, 3) := by decide +kernel
theorem dX12_check_98 : decode cX12_check 98 = .ok (.goto (-50), 3) := by decide +kernel
theorem dX12_check_101 : decode cX12_check 101 = .ok (.bipush (-9), 2) := by decide +kernel
theorem dX12_check_103 : decode cX12_check 103 = .ok (.ireturn, 1) := by decide +kernel
theorem dX12_count_0 : decode cX12_count 0 = .ok (.iconst 0, 1) := by decide +kernel
theorem dX12_count_1 : decode cX12_count 1 = .ok (.istore_n 2, 1) := by decide +kernel
theorem dX12_count_2 : decode cX12_count 2 = .ok (.iload_n 1, 1) := by decide +kernel
theorem dX12_count_3 : decode cX12_count 3 = .ok (.tableswitch 200 0 10 #[57, 62, 97, 102, 107, 112, 117, 151, 156, 190, 195], 57) := by decide +kernel
theorem dX12_count_60 : decode cX12_count 60 = .ok (.aload_n 0, 1) := by decide +kernel
theorem dX12_count_61 : decode cX12_count 61 = .ok (.getfield 273, 3) := by decide +kernel
theorem dX12_count_64 : decode cX12_count 64 = .ok (.ireturn, 1) := by decide +kernel
theorem dX12_count_65 : decode cX12_count 65 = .ok (.iconst 0, 1) := by decide +kernel
theorem dX12_count_66 : decode cX12_count 66 = .ok (.istore_n 3, 1) := by decide +kernel
theorem dX12_count_67 : decode cX12_count 67 = .ok (.iload_n 3, 1) := by decide +kernel
theorem dX12_count_68 : decode cX12_count 68 = .ok (.aload_n 0, 1) := by decide +kernel
theorem dX12_count_69 : decode cX12_count 69 = .ok (.getfield 266, 3) := by decide +kernel
theorem dX12_count_72 : decode cX12_count 72 = .ok (.if_icmp .ge 26, 3) := by decide +kernel
theorem dX12_count_75 : decode cX12_count 75 = .ok (.iload_n 2, 1) := by decide +kernel
theorem dX12_count_76 : decode cX12_count 76 = .ok (.aload_n 0, 1) := by decide +kernel
theorem dX12_count_77 : decode cX12_count 77 = .ok (.getfield 29, 3) := by decide +kernel
theorem dX12_count_80 : decode cX12_count 80 = .ok (.iload_n 3, 1) := by decide +kernel
theorem dX12_count_81 : decode cX12_count 81 = .ok (.baload, 1) := by decide +kernel
theorem dX12_count_82 : decode cX12_count 82 = .ok (.ifCond .eq 7, 3) := by decide +kernel
theorem dX12_count_85 : decode cX12_count 85 = .ok (.iconst 0, 1) := by decide +kernel
theorem dX12_count_86 : decode cX12_count 86 = .ok (.goto 4, 3) := by decide +kernel
theorem dX12_count_89 : decode cX12_count 89 = .ok (.iconst 1, 1) := by decide +kernel
theorem dX12_count_90 : decode cX12_count 90 = .ok (.iadd, 1) := by decide +kernel
theorem dX12_count_91 : decode cX12_count 91 = .ok (.istore_n 2, 1) := by decide +kernel
theorem dX12_count_92 : decode cX12_count 92 = .ok (.iinc 3 1, 3) := by decide +kernel
theorem dX12_count_95 : decode cX12_count 95 = .ok (.goto (-28), 3) := by decide +kernel
theorem dX12_count_98 : decode cX12_count 98 = .ok (.iload_n 2, 1) := by decide +kernel
theorem dX12_count_99 : decode cX12_count 99 = .ok (.ireturn, 1) := by decide +kernel
theorem dX12_count_100 : decode cX12_count 100 = .ok (.aload_n 0, 1) := by decide +kernel
theorem dX12_count_101 : decode cX12_count 101 = .ok (.getfield 347, 3) := by decide +kernel
theorem dX12_count_104 : decode cX12_count 104 = .ok (.ireturn, 1) := by decide +kernel
theorem dX12_count_105 : decode cX12_count 105 = .ok (.aload_n 0, 1) := by decide +kernel
theorem dX12_count_106 : decode cX12_count 106 = .ok (.getfield 381, 3) := by decide +kernel
theorem dX12_count_109 : decode cX12_count 109 = .ok (.ireturn, 1) := by decide +kernel
theorem dX12_count_110 : decode cX12_count 110 = .ok (.aload_n 0, 1) := by decide +kernel
theorem dX12_count_111 : decode cX12_count 111 = .ok (.getfield 357, 3) := by decide +kernel
theorem dX12_count_114 : decode cX12_count 114 = .ok (.ireturn, 1) := by decide +kernel
theorem dX12_count_115 : decode cX12_count 115 = .ok (.aload_n 0, 1) := by decide +kernel
theorem dX12_count_116 : decode cX12_count 116 = .ok (.getfield 421, 3) := by decide +kernel
theorem dX12_count_119 : decode cX12_count 119 = .ok (.ireturn, 1) := by decide +kernel
theorem dX12_count_120 : decode cX12_count 120 = .ok (.iconst 0, 1) := by decide +kernel
theorem dX12_count_121 : decode cX12_count 121 = .ok (.istore_n 3, 1) := by decide +kernel
theorem dX12_count_122 : decode cX12_count 122 = .ok (.iload_n 3, 1) := by decide +kernel
theorem dX12_count_123 : decode cX12_count 123 = .ok (.aload_n 0, 1) := by decide +kernel
theorem dX12_count_124 : decode cX12_count 124 = .ok (.getfield 427, 3) := by decide +kernel
theorem dX12_count_127 : decode cX12_count 127 = .ok (.if_icmp .ge 25, 3) := by decide +kernel
theorem dX12_count_130 : decode cX12_count 130 = .ok (.iload_n 2, 1) := by decide +kernel
theorem dX12_count_131 : decode cX12_count 131 = .ok (.aload_n 0, 1) := by decide +kernel
theorem dX12_count_132 : decode cX12_count 132 = .ok (.iload_n 3, 1) := by decide +kernel
theorem dX12_count_133 : decode cX12_count 133 = .ok (.invokevirtual 436, 3) := by decide +kernel
theorem dX12_count_136 : decode cX12_count 136 = .ok (.ifCond .eq 7, 3) := by decide +kernel
theorem dX12_count_139 : decode cX12_count 139 = .ok (.iconst 1, 1) := by decide +kernel
theorem dX12_count_140 : decode cX12_count 140 = .ok (.goto 4, 3) := by decide +kernel
theorem dX12_count_143 : decode cX12_count 143 = .ok (.iconst 0, 1) := by decide +kernel
theorem dX12_count_144 : decode cX12_count 144 = .ok (.iadd, 1) := by decide +kernel
theorem dX12_count_145 : decode cX12_count 145 = .ok (.istore_n 2, 1) := by decide +kernel
theorem dX12_count_146 : decode cX12_count 146 = .ok (.iinc 3 1, 3) := by decide +kernel
theorem dX12_count_149 : decode cX12_count 149 = .ok (.goto (-27), 3) := by decide +kernel
theorem dX12_count_152 : decode cX12_count 152 = .ok (.iload_n 2, 1) := by decide +kernel
theorem dX12_count_153 : decode cX12_count 153 = .ok (.ireturn, 1) := by decide +kernel
theorem dX12_count_154 : decode cX12_count 154 = .ok (.aload_n 0, 1) := by decide +kernel
theorem dX12_count_155 : decode cX12_count 155 = .ok (.getfield 445, 3) := by decide +kernel
theorem dX12_count_158 : decode cX12_count 158 = .ok (.ireturn, 1) := by decide +kernel
theorem dX12_count_159 : decode cX12_count 159 = .ok (.iconst 0, 1) := by decide +kernel
theorem dX12_count_160 : decode cX12_count 160 = .ok (.istore_n 3, 1) := by decide +kernel
theorem dX12_count_161 : decode cX12_count 161 = .ok (.iload_n 3, 1) := by decide +kernel
theorem dX12_count_162 : decode cX12_count 162 = .ok (.aload_n 0, 1) := by decide +kernel
theorem dX12_count_163 : decode cX12_count 163 = .ok (.getfield 445, 3) := by decide +kernel
theorem dX12_count_166 : decode cX12_count 166 = .ok (.if_icmp .ge 25, 3) := by decide +kernel
theorem dX12_count_169 : decode cX12_count 169 = .ok (.iload_n 2, 1) := by decide +kernel
theorem dX12_count_170 : decode cX12_count 170 = .ok (.aload_n 0, 1) := by decide +kernel
theorem dX12_count_171 : decode cX12_count 171 = .ok (.iload_n 3, 1) := by decide +kernel
theorem dX12_count_172 : decode cX12_count 172 = .ok (.invokevirtual 454, 3) := by decide +kernel
theorem dX12_count_175 : decode cX12_count 175 = .ok (.ifCond .lt 7, 3) := by decide +kernel
theorem dX12_count_178 : decode cX12_count 178 = .ok (.iconst 1, 1) := by decide +kernel
theorem dX12_count_179 : decode cX12_count 179 = .ok (.goto 4, 3) := by decide +kernel
theorem dX12_count_182 : decode cX12_count 182 = .ok (.iconst 0, 1) := by decide +kernel
theorem dX12_count_183 : decode cX12_count 183 = .ok (.iadd, 1) := by decide +kernel
theorem dX12_count_184 : decode cX12_count 184 = .ok (.istore_n 2, 1) := by decide +kernel
theorem dX12_count_185 : decode cX12_count 185 = .ok (.iinc 3 1, 3) := by decide +kernel
theorem dX12_count_188 : decode cX12_count 188 = .ok (.goto (-27), 3) := by decide +kernel
theorem dX12_count_191 : decode cX12_count 191 = .ok (.iload_n 2, 1) := by decide +kernel
theorem dX12_count_192 : decode cX12_count 192 = .ok (.ireturn, 1) := by decide +kernel
theorem dX12_count_193 : decode cX12_count 193 = .ok (.aload_n 0, 1) := by decide +kernel
theorem dX12_count_194 : decode cX12_count 194 = .ok (.getfield 287, 3) := by decide +kernel
theorem dX12_count_197 : decode cX12_count 197 = .ok (.ireturn, 1) := by decide +kernel
theorem dX12_count_198 : decode cX12_count 198 = .ok (.aload_n 0, 1) := by decide +kernel
theorem dX12_count_199 : decode cX12_count 199 = .ok (.getfield 520, 3) := by decide +kernel
theorem dX12_count_202 : decode cX12_count 202 = .ok (.ireturn, 1) := by decide +kernel
theorem dX12_count_203 : decode cX12_count 203 = .ok (.iload_n 1, 1) := by decide +kernel
theorem dX12_count_204 : decode cX12_count 204 = .ok (.bipush 11, 2) := by decide +kernel
theorem dX12_count_206 : decode cX12_count 206 = .ok (.bipush 16, 2) := by decide +kernel
theorem dX12_count_208 : decode cX12_count 208 = .ok (.invokestatic 262, 3) := by decide +kernel
theorem dX12_count_211 : decode cX12_count 211 = .ok (.ifCond .eq 15, 3) := by decide +kernel
theorem dX12_count_214 : decode cX12_count 214 = .ok (.aload_n 0, 1) := by decide +kernel
theorem dX12_count_215 : decode cX12_count 215 = .ok (.getfield 32, 3) := by decide +kernel
theorem dX12_count_218 : decode cX12_count 218 = .ok (.iload_n 1, 1) := by decide +kernel
theorem dX12_count_219 : decode cX12_count 219 = .ok (.bipush 10, 2) := by decide +kernel
theorem dX12_count_221 : decode cX12_count 221 = .ok (.isub, 1) := by decide +kernel
theorem dX12_count_222 : decode cX12_count 222 = .ok (.iaload, 1) := by decide +kernel
theorem dX12_count_223 : decode cX12_count 223 = .ok (.goto 5, 3) := by decide +kernel
theorem dX12_count_226 : decode cX12_count 226 = .ok (.bipush (-9), 2) := by decide +kernel
theorem dX12_count_228 : decode cX12_count 228 = .ok (.ireturn, 1) := by decide +kernel
