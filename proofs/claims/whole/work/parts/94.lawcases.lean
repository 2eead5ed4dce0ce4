/-! 94: the law: its cases -/
theorem d_law_0 : decode code 0 = .ok (.new 8, 3) := by decide +kernel
theorem d_law_3 : decode code 3 = .ok (.dup, 1) := by decide +kernel
theorem d_law_4 : decode code 4 = .ok (.invokespecial 56, 3) := by decide +kernel
theorem d_law_7 : decode code 7 = .ok (.astore_n 1, 1) := by decide +kernel
theorem d_law_8 : decode code 8 = .ok (.new 57, 3) := by decide +kernel
theorem d_law_11 : decode code 11 = .ok (.dup, 1) := by decide +kernel
theorem d_law_12 : decode code 12 = .ok (.invokespecial 59, 3) := by decide +kernel
theorem d_law_15 : decode code 15 = .ok (.astore_n 2, 1) := by decide +kernel
theorem d_law_16 : decode code 16 = .ok (.iconst 1, 1) := by decide +kernel
theorem d_law_17 : decode code 17 = .ok (.newarray .long, 2) := by decide +kernel
theorem d_law_19 : decode code 19 = .ok (.astore_n 3, 1) := by decide +kernel
theorem d_law_20 : decode code 20 = .ok (.iconst 0, 1) := by decide +kernel
theorem d_law_21 : decode code 21 = .ok (.istore 4, 2) := by decide +kernel
theorem d_law_23 : decode code 23 = .ok (.iload 4, 2) := by decide +kernel
theorem d_law_25 : decode code 25 = .ok (.aload_n 0, 1) := by decide +kernel
theorem d_law_26 : decode code 26 = .ok (.arraylength, 1) := by decide +kernel
theorem d_law_27 : decode code 27 = .ok (.bipush 6, 2) := by decide +kernel
theorem d_law_29 : decode code 29 = .ok (.isub, 1) := by decide +kernel
theorem d_law_30 : decode code 30 = .ok (.if_icmp .gt 841, 3) := by decide +kernel
theorem d_law_33 : decode code 33 = .ok (.aload_n 0, 1) := by decide +kernel
theorem d_law_34 : decode code 34 = .ok (.iload 4, 2) := by decide +kernel
theorem d_law_36 : decode code 36 = .ok (.iaload, 1) := by decide +kernel
theorem d_law_37 : decode code 37 = .ok (.bipush 15, 2) := by decide +kernel
theorem d_law_39 : decode code 39 = .ok (.iand, 1) := by decide +kernel
theorem d_law_40 : decode code 40 = .ok (.tableswitch 825 0 12 #[68, 128, 176, 224, 328, 341, 397, 465, 521, 577, 633, 701, 769], 68) := by decide +kernel
theorem d_law_108 : decode code 108 = .ok (.aload_n 1, 1) := by decide +kernel
theorem d_law_109 : decode code 109 = .ok (.aload_n 0, 1) := by decide +kernel
theorem d_law_110 : decode code 110 = .ok (.iload 4, 2) := by decide +kernel
theorem d_law_112 : decode code 112 = .ok (.iconst 1, 1) := by decide +kernel
theorem d_law_113 : decode code 113 = .ok (.iadd, 1) := by decide +kernel
theorem d_law_114 : decode code 114 = .ok (.iaload, 1) := by decide +kernel
theorem d_law_115 : decode code 115 = .ok (.aload_n 0, 1) := by decide +kernel
theorem d_law_116 : decode code 116 = .ok (.iload 4, 2) := by decide +kernel
theorem d_law_118 : decode code 118 = .ok (.iconst 2, 1) := by decide +kernel
theorem d_law_119 : decode code 119 = .ok (.iadd, 1) := by decide +kernel
theorem d_law_120 : decode code 120 = .ok (.iaload, 1) := by decide +kernel
theorem d_law_121 : decode code 121 = .ok (.aload_n 0, 1) := by decide +kernel
theorem d_law_122 : decode code 122 = .ok (.iload 4, 2) := by decide +kernel
theorem d_law_124 : decode code 124 = .ok (.iconst 3, 1) := by decide +kernel
theorem d_law_125 : decode code 125 = .ok (.iadd, 1) := by decide +kernel
theorem d_law_126 : decode code 126 = .ok (.iaload, 1) := by decide +kernel
theorem d_law_127 : decode code 127 = .ok (.invokestatic 60, 3) := by decide +kernel
theorem d_law_130 : decode code 130 = .ok (.istore 5, 2) := by decide +kernel
theorem d_law_132 : decode code 132 = .ok (.aload_n 2, 1) := by decide +kernel
theorem d_law_133 : decode code 133 = .ok (.aload_n 0, 1) := by decide +kernel
theorem d_law_134 : decode code 134 = .ok (.iload 4, 2) := by decide +kernel
theorem d_law_136 : decode code 136 = .ok (.iconst 1, 1) := by decide +kernel
theorem d_law_137 : decode code 137 = .ok (.iadd, 1) := by decide +kernel
theorem d_law_138 : decode code 138 = .ok (.iaload, 1) := by decide +kernel
theorem d_law_139 : decode code 139 = .ok (.aload_n 0, 1) := by decide +kernel
theorem d_law_140 : decode code 140 = .ok (.iload 4, 2) := by decide +kernel
theorem d_law_142 : decode code 142 = .ok (.iconst 2, 1) := by decide +kernel
theorem d_law_143 : decode code 143 = .ok (.iadd, 1) := by decide +kernel
theorem d_law_144 : decode code 144 = .ok (.iaload, 1) := by decide +kernel
theorem d_law_145 : decode code 145 = .ok (.aload_n 0, 1) := by decide +kernel
theorem d_law_146 : decode code 146 = .ok (.iload 4, 2) := by decide +kernel
theorem d_law_148 : decode code 148 = .ok (.iconst 3, 1) := by decide +kernel
theorem d_law_149 : decode code 149 = .ok (.iadd, 1) := by decide +kernel
theorem d_law_150 : decode code 150 = .ok (.iaload, 1) := by decide +kernel
theorem d_law_151 : decode code 151 = .ok (.invokevirtual 65, 3) := by decide +kernel
theorem d_law_154 : decode code 154 = .ok (.aload_n 2, 1) := by decide +kernel
theorem d_law_155 : decode code 155 = .ok (.invokevirtual 66, 3) := by decide +kernel
theorem d_law_158 : decode code 158 = .ok (.iload 5, 2) := by decide +kernel
theorem d_law_160 : decode code 160 = .ok (.if_icmp .eq 5, 3) := by decide +kernel
theorem d_law_163 : decode code 163 = .ok (.iconst 0, 1) := by decide +kernel
theorem d_law_164 : decode code 164 = .ok (.ireturn, 1) := by decide +kernel
theorem d_law_165 : decode code 165 = .ok (.goto 700, 3) := by decide +kernel
theorem d_law_168 : decode code 168 = .ok (.aload_n 1, 1) := by decide +kernel
theorem d_law_169 : decode code 169 = .ok (.aload_n 0, 1) := by decide +kernel
theorem d_law_170 : decode code 170 = .ok (.iload 4, 2) := by decide +kernel
theorem d_law_172 : decode code 172 = .ok (.iconst 1, 1) := by decide +kernel
theorem d_law_173 : decode code 173 = .ok (.iadd, 1) := by decide +kernel
theorem d_law_174 : decode code 174 = .ok (.iaload, 1) := by decide +kernel
theorem d_law_175 : decode code 175 = .ok (.aload_n 0, 1) := by decide +kernel
theorem d_law_176 : decode code 176 = .ok (.iload 4, 2) := by decide +kernel
theorem d_law_178 : decode code 178 = .ok (.iconst 2, 1) := by decide +kernel
theorem d_law_179 : decode code 179 = .ok (.iadd, 1) := by decide +kernel
theorem d_law_180 : decode code 180 = .ok (.iaload, 1) := by decide +kernel
theorem d_law_181 : decode code 181 = .ok (.invokestatic 70, 3) := by decide +kernel
theorem d_law_184 : decode code 184 = .ok (.istore 5, 2) := by decide +kernel
theorem d_law_186 : decode code 186 = .ok (.aload_n 2, 1) := by decide +kernel
theorem d_law_187 : decode code 187 = .ok (.aload_n 0, 1) := by decide +kernel
theorem d_law_188 : decode code 188 = .ok (.iload 4, 2) := by decide +kernel
theorem d_law_190 : decode code 190 = .ok (.iconst 1, 1) := by decide +kernel
theorem d_law_191 : decode code 191 = .ok (.iadd, 1) := by decide +kernel
theorem d_law_192 : decode code 192 = .ok (.iaload, 1) := by decide +kernel
theorem d_law_193 : decode code 193 = .ok (.aload_n 0, 1) := by decide +kernel
theorem d_law_194 : decode code 194 = .ok (.iload 4, 2) := by decide +kernel
theorem d_law_196 : decode code 196 = .ok (.iconst 2, 1) := by decide +kernel
theorem d_law_197 : decode code 197 = .ok (.iadd, 1) := by decide +kernel
theorem d_law_198 : decode code 198 = .ok (.iaload, 1) := by decide +kernel
theorem d_law_199 : decode code 199 = .ok (.invokevirtual 73, 3) := by decide +kernel
theorem d_law_202 : decode code 202 = .ok (.aload_n 2, 1) := by decide +kernel
theorem d_law_203 : decode code 203 = .ok (.invokevirtual 66, 3) := by decide +kernel
theorem d_law_206 : decode code 206 = .ok (.iload 5, 2) := by decide +kernel
theorem d_law_208 : decode code 208 = .ok (.if_icmp .eq 5, 3) := by decide +kernel
theorem d_law_211 : decode code 211 = .ok (.iconst 0, 1) := by decide +kernel
theorem d_law_212 : decode code 212 = .ok (.ireturn, 1) := by decide +kernel
theorem d_law_213 : decode code 213 = .ok (.goto 652, 3) := by decide +kernel
theorem d_law_216 : decode code 216 = .ok (.aload_n 1, 1) := by decide +kernel
theorem d_law_217 : decode code 217 = .ok (.aload_n 0, 1) := by decide +kernel
theorem d_law_218 : decode code 218 = .ok (.iload 4, 2) := by decide +kernel
theorem d_law_220 : decode code 220 = .ok (.iconst 1, 1) := by decide +kernel
theorem d_law_221 : decode code 221 = .ok (.iadd, 1) := by decide +kernel
theorem d_law_222 : decode code 222 = .ok (.iaload, 1) := by decide +kernel
theorem d_law_223 : decode code 223 = .ok (.aload_n 0, 1) := by decide +kernel
theorem d_law_224 : decode code 224 = .ok (.iload 4, 2) := by decide +kernel
theorem d_law_226 : decode code 226 = .ok (.iconst 2, 1) := by decide +kernel
theorem d_law_227 : decode code 227 = .ok (.iadd, 1) := by decide +kernel
theorem d_law_228 : decode code 228 = .ok (.iaload, 1) := by decide +kernel
theorem d_law_229 : decode code 229 = .ok (.invokestatic 74, 3) := by decide +kernel
theorem d_law_232 : decode code 232 = .ok (.istore 5, 2) := by decide +kernel
theorem d_law_234 : decode code 234 = .ok (.aload_n 2, 1) := by decide +kernel
theorem d_law_235 : decode code 235 = .ok (.aload_n 0, 1) := by decide +kernel
theorem d_law_236 : decode code 236 = .ok (.iload 4, 2) := by decide +kernel
theorem d_law_238 : decode code 238 = .ok (.iconst 1, 1) := by decide +kernel
theorem d_law_239 : decode code 239 = .ok (.iadd, 1) := by decide +kernel
theorem d_law_240 : decode code 240 = .ok (.iaload, 1) := by decide +kernel
theorem d_law_241 : decode code 241 = .ok (.aload_n 0, 1) := by decide +kernel
theorem d_law_242 : decode code 242 = .ok (.iload 4, 2) := by decide +kernel
theorem d_law_244 : decode code 244 = .ok (.iconst 2, 1) := by decide +kernel
theorem d_law_245 : decode code 245 = .ok (.iadd, 1) := by decide +kernel
theorem d_law_246 : decode code 246 = .ok (.iaload, 1) := by decide +kernel
theorem d_law_247 : decode code 247 = .ok (.invokevirtual 76, 3) := by decide +kernel
theorem d_law_250 : decode code 250 = .ok (.aload_n 2, 1) := by decide +kernel
theorem d_law_251 : decode code 251 = .ok (.invokevirtual 66, 3) := by decide +kernel
theorem d_law_254 : decode code 254 = .ok (.iload 5, 2) := by decide +kernel
theorem d_law_256 : decode code 256 = .ok (.if_icmp .eq 5, 3) := by decide +kernel
theorem d_law_259 : decode code 259 = .ok (.iconst 0, 1) := by decide +kernel
theorem d_law_260 : decode code 260 = .ok (.ireturn, 1) := by decide +kernel
theorem d_law_261 : decode code 261 = .ok (.goto 604, 3) := by decide +kernel
theorem d_law_264 : decode code 264 = .ok (.aload_n 1, 1) := by decide +kernel
theorem d_law_265 : decode code 265 = .ok (.aload_n 0, 1) := by decide +kernel
theorem d_law_266 : decode code 266 = .ok (.iload 4, 2) := by decide +kernel
theorem d_law_268 : decode code 268 = .ok (.iconst 1, 1) := by decide +kernel
theorem d_law_269 : decode code 269 = .ok (.iadd, 1) := by decide +kernel
theorem d_law_270 : decode code 270 = .ok (.iaload, 1) := by decide +kernel
theorem d_law_271 : decode code 271 = .ok (.aload_n 0, 1) := by decide +kernel
theorem d_law_272 : decode code 272 = .ok (.iload 4, 2) := by decide +kernel
theorem d_law_274 : decode code 274 = .ok (.iconst 2, 1) := by decide +kernel
theorem d_law_275 : decode code 275 = .ok (.iadd, 1) := by decide +kernel
theorem d_law_276 : decode code 276 = .ok (.iaload, 1) := by decide +kernel
theorem d_law_277 : decode code 277 = .ok (.aload_n 0, 1) := by decide +kernel
theorem d_law_278 : decode code 278 = .ok (.iload 4, 2) := by decide +kernel
theorem d_law_280 : decode code 280 = .ok (.iconst 3, 1) := by decide +kernel
theorem d_law_281 : decode code 281 = .ok (.iadd, 1) := by decide +kernel
theorem d_law_282 : decode code 282 = .ok (.iaload, 1) := by decide +kernel
theorem d_law_283 : decode code 283 = .ok (.aload_n 0, 1) := by decide +kernel
theorem d_law_284 : decode code 284 = .ok (.iload 4, 2) := by decide +kernel
theorem d_law_286 : decode code 286 = .ok (.iconst 4, 1) := by decide +kernel
theorem d_law_287 : decode code 287 = .ok (.iadd, 1) := by decide +kernel
theorem d_law_288 : decode code 288 = .ok (.iaload, 1) := by decide +kernel
theorem d_law_289 : decode code 289 = .ok (.aload_n 0, 1) := by decide +kernel
theorem d_law_290 : decode code 290 = .ok (.iload 4, 2) := by decide +kernel
theorem d_law_292 : decode code 292 = .ok (.iconst 5, 1) := by decide +kernel
theorem d_law_293 : decode code 293 = .ok (.iadd, 1) := by decide +kernel
theorem d_law_294 : decode code 294 = .ok (.iaload, 1) := by decide +kernel
theorem d_law_295 : decode code 295 = .ok (.aload_n 3, 1) := by decide +kernel
theorem d_law_296 : decode code 296 = .ok (.invokestatic 77, 3) := by decide +kernel
theorem d_law_299 : decode code 299 = .ok (.istore 5, 2) := by decide +kernel
theorem d_law_301 : decode code 301 = .ok (.aload_n 2, 1) := by decide +kernel
theorem d_law_302 : decode code 302 = .ok (.aload_n 0, 1) := by decide +kernel
theorem d_law_303 : decode code 303 = .ok (.iload 4, 2) := by decide +kernel
theorem d_law_305 : decode code 305 = .ok (.iconst 1, 1) := by decide +kernel
theorem d_law_306 : decode code 306 = .ok (.iadd, 1) := by decide +kernel
theorem d_law_307 : decode code 307 = .ok (.iaload, 1) := by decide +kernel
theorem d_law_308 : decode code 308 = .ok (.aload_n 0, 1) := by decide +kernel
theorem d_law_309 : decode code 309 = .ok (.iload 4, 2) := by decide +kernel
theorem d_law_311 : decode code 311 = .ok (.iconst 2, 1) := by decide +kernel
theorem d_law_312 : decode code 312 = .ok (.iadd, 1) := by decide +kernel
theorem d_law_313 : decode code 313 = .ok (.iaload, 1) := by decide +kernel
theorem d_law_314 : decode code 314 = .ok (.aload_n 0, 1) := by decide +kernel
theorem d_law_315 : decode code 315 = .ok (.iload 4, 2) := by decide +kernel
theorem d_law_317 : decode code 317 = .ok (.iconst 3, 1) := by decide +kernel
theorem d_law_318 : decode code 318 = .ok (.iadd, 1) := by decide +kernel
theorem d_law_319 : decode code 319 = .ok (.iaload, 1) := by decide +kernel
theorem d_law_320 : decode code 320 = .ok (.aload_n 0, 1) := by decide +kernel
theorem d_law_321 : decode code 321 = .ok (.iload 4, 2) := by decide +kernel
theorem d_law_323 : decode code 323 = .ok (.iconst 4, 1) := by decide +kernel
theorem d_law_324 : decode code 324 = .ok (.iadd, 1) := by decide +kernel
theorem d_law_325 : decode code 325 = .ok (.iaload, 1) := by decide +kernel
theorem d_law_326 : decode code 326 = .ok (.aload_n 0, 1) := by decide +kernel
theorem d_law_327 : decode code 327 = .ok (.iload 4, 2) := by decide +kernel
theorem d_law_329 : decode code 329 = .ok (.iconst 5, 1) := by decide +kernel
theorem d_law_330 : decode code 330 = .ok (.iadd, 1) := by decide +kernel
theorem d_law_331 : decode code 331 = .ok (.iaload, 1) := by decide +kernel
theorem d_law_332 : decode code 332 = .ok (.invokevirtual 80, 3) := by decide +kernel
theorem d_law_335 : decode code 335 = .ok (.istore 6, 2) := by decide +kernel
theorem d_law_337 : decode code 337 = .ok (.aload_n 2, 1) := by decide +kernel
theorem d_law_338 : decode code 338 = .ok (.invokevirtual 66, 3) := by decide +kernel
theorem d_law_341 : decode code 341 = .ok (.iload 5, 2) := by decide +kernel
theorem d_law_343 : decode code 343 = .ok (.if_icmp .eq 5, 3) := by decide +kernel
theorem d_law_346 : decode code 346 = .ok (.iconst 0, 1) := by decide +kernel
theorem d_law_347 : decode code 347 = .ok (.ireturn, 1) := by decide +kernel
theorem d_law_348 : decode code 348 = .ok (.iload 5, 2) := by decide +kernel
theorem d_law_350 : decode code 350 = .ok (.ifCond .ne 15, 3) := by decide +kernel
theorem d_law_353 : decode code 353 = .ok (.aload_n 3, 1) := by decide +kernel
theorem d_law_354 : decode code 354 = .ok (.iconst 0, 1) := by decide +kernel
theorem d_law_355 : decode code 355 = .ok (.laload, 1) := by decide +kernel
theorem d_law_356 : decode code 356 = .ok (.iload 6, 2) := by decide +kernel
theorem d_law_358 : decode code 358 = .ok (.i2l, 1) := by decide +kernel
theorem d_law_359 : decode code 359 = .ok (.lcmp, 1) := by decide +kernel
theorem d_law_360 : decode code 360 = .ok (.ifCond .eq 5, 3) := by decide +kernel
theorem d_law_363 : decode code 363 = .ok (.iconst 0, 1) := by decide +kernel
theorem d_law_364 : decode code 364 = .ok (.ireturn, 1) := by decide +kernel
theorem d_law_365 : decode code 365 = .ok (.goto 500, 3) := by decide +kernel
theorem d_law_368 : decode code 368 = .ok (.aload_n 1, 1) := by decide +kernel
theorem d_law_369 : decode code 369 = .ok (.invokevirtual 81, 3) := by decide +kernel
theorem d_law_372 : decode code 372 = .ok (.aload_n 2, 1) := by decide +kernel
theorem d_law_373 : decode code 373 = .ok (.invokevirtual 84, 3) := by decide +kernel
theorem d_law_376 : decode code 376 = .ok (.if_icmp .eq 489, 3) := by decide +kernel
theorem d_law_379 : decode code 379 = .ok (.iconst 0, 1) := by decide +kernel
theorem d_law_380 : decode code 380 = .ok (.ireturn, 1) := by decide +kernel
theorem d_law_381 : decode code 381 = .ok (.aload_n 1, 1) := by decide +kernel
theorem d_law_382 : decode code 382 = .ok (.aload_n 0, 1) := by decide +kernel
theorem d_law_383 : decode code 383 = .ok (.iload 4, 2) := by decide +kernel
theorem d_law_385 : decode code 385 = .ok (.iconst 1, 1) := by decide +kernel
theorem d_law_386 : decode code 386 = .ok (.iadd, 1) := by decide +kernel
theorem d_law_387 : decode code 387 = .ok (.iaload, 1) := by decide +kernel
theorem d_law_388 : decode code 388 = .ok (.aload_n 3, 1) := by decide +kernel
theorem d_law_389 : decode code 389 = .ok (.invokestatic 85, 3) := by decide +kernel
theorem d_law_392 : decode code 392 = .ok (.istore 5, 2) := by decide +kernel
theorem d_law_394 : decode code 394 = .ok (.aload_n 2, 1) := by decide +kernel
theorem d_law_395 : decode code 395 = .ok (.aload_n 0, 1) := by decide +kernel
theorem d_law_396 : decode code 396 = .ok (.iload 4, 2) := by decide +kernel
theorem d_law_398 : decode code 398 = .ok (.iconst 1, 1) := by decide +kernel
theorem d_law_399 : decode code 399 = .ok (.iadd, 1) := by decide +kernel
theorem d_law_400 : decode code 400 = .ok (.iaload, 1) := by decide +kernel
theorem d_law_401 : decode code 401 = .ok (.invokevirtual 88, 3) := by decide +kernel
theorem d_law_404 : decode code 404 = .ok (.istore 6, 2) := by decide +kernel
theorem d_law_406 : decode code 406 = .ok (.aload_n 2, 1) := by decide +kernel
theorem d_law_407 : decode code 407 = .ok (.invokevirtual 66, 3) := by decide +kernel
theorem d_law_410 : decode code 410 = .ok (.iload 5, 2) := by decide +kernel
theorem d_law_412 : decode code 412 = .ok (.if_icmp .eq 5, 3) := by decide +kernel
theorem d_law_415 : decode code 415 = .ok (.iconst 0, 1) := by decide +kernel
theorem d_law_416 : decode code 416 = .ok (.ireturn, 1) := by decide +kernel
theorem d_law_417 : decode code 417 = .ok (.iload 5, 2) := by decide +kernel
theorem d_law_419 : decode code 419 = .ok (.ifCond .ne 15, 3) := by decide +kernel
theorem d_law_422 : decode code 422 = .ok (.aload_n 3, 1) := by decide +kernel
theorem d_law_423 : decode code 423 = .ok (.iconst 0, 1) := by decide +kernel
theorem d_law_424 : decode code 424 = .ok (.laload, 1) := by decide +kernel
theorem d_law_425 : decode code 425 = .ok (.iload 6, 2) := by decide +kernel
theorem d_law_427 : decode code 427 = .ok (.i2l, 1) := by decide +kernel
theorem d_law_428 : decode code 428 = .ok (.lcmp, 1) := by decide +kernel
theorem d_law_429 : decode code 429 = .ok (.ifCond .eq 5, 3) := by decide +kernel
theorem d_law_432 : decode code 432 = .ok (.iconst 0, 1) := by decide +kernel
theorem d_law_433 : decode code 433 = .ok (.ireturn, 1) := by decide +kernel
theorem d_law_434 : decode code 434 = .ok (.goto 431, 3) := by decide +kernel
theorem d_law_437 : decode code 437 = .ok (.aload_n 1, 1) := by decide +kernel
theorem d_law_438 : decode code 438 = .ok (.aload_n 0, 1) := by decide +kernel
theorem d_law_439 : decode code 439 = .ok (.iload 4, 2) := by decide +kernel
theorem d_law_441 : decode code 441 = .ok (.iconst 1, 1) := by decide +kernel
theorem d_law_442 : decode code 442 = .ok (.iadd, 1) := by decide +kernel
theorem d_law_443 : decode code 443 = .ok (.iaload, 1) := by decide +kernel
theorem d_law_444 : decode code 444 = .ok (.aload_n 0, 1) := by decide +kernel
theorem d_law_445 : decode code 445 = .ok (.iload 4, 2) := by decide +kernel
theorem d_law_447 : decode code 447 = .ok (.iconst 2, 1) := by decide +kernel
theorem d_law_448 : decode code 448 = .ok (.iadd, 1) := by decide +kernel
theorem d_law_449 : decode code 449 = .ok (.iaload, 1) := by decide +kernel
theorem d_law_450 : decode code 450 = .ok (.aload_n 3, 1) := by decide +kernel
theorem d_law_451 : decode code 451 = .ok (.invokestatic 89, 3) := by decide +kernel
theorem d_law_454 : decode code 454 = .ok (.istore 5, 2) := by decide +kernel
theorem d_law_456 : decode code 456 = .ok (.aload_n 2, 1) := by decide +kernel
theorem d_law_457 : decode code 457 = .ok (.aload_n 0, 1) := by decide +kernel
theorem d_law_458 : decode code 458 = .ok (.iload 4, 2) := by decide +kernel
theorem d_law_460 : decode code 460 = .ok (.iconst 1, 1) := by decide +kernel
theorem d_law_461 : decode code 461 = .ok (.iadd, 1) := by decide +kernel
theorem d_law_462 : decode code 462 = .ok (.iaload, 1) := by decide +kernel
theorem d_law_463 : decode code 463 = .ok (.aload_n 0, 1) := by decide +kernel
theorem d_law_464 : decode code 464 = .ok (.iload 4, 2) := by decide +kernel
theorem d_law_466 : decode code 466 = .ok (.iconst 2, 1) := by decide +kernel
theorem d_law_467 : decode code 467 = .ok (.iadd, 1) := by decide +kernel
theorem d_law_468 : decode code 468 = .ok (.iaload, 1) := by decide +kernel
theorem d_law_469 : decode code 469 = .ok (.invokevirtual 92, 3) := by decide +kernel
theorem d_law_472 : decode code 472 = .ok (.istore 6, 2) := by decide +kernel
theorem d_law_474 : decode code 474 = .ok (.aload_n 2, 1) := by decide +kernel
theorem d_law_475 : decode code 475 = .ok (.invokevirtual 66, 3) := by decide +kernel
theorem d_law_478 : decode code 478 = .ok (.iload 5, 2) := by decide +kernel
theorem d_law_480 : decode code 480 = .ok (.if_icmp .eq 5, 3) := by decide +kernel
theorem d_law_483 : decode code 483 = .ok (.iconst 0, 1) := by decide +kernel
theorem d_law_484 : decode code 484 = .ok (.ireturn, 1) := by decide +kernel
theorem d_law_485 : decode code 485 = .ok (.iload 5, 2) := by decide +kernel
theorem d_law_487 : decode code 487 = .ok (.ifCond .ne 15, 3) := by decide +kernel
theorem d_law_490 : decode code 490 = .ok (.aload_n 3, 1) := by decide +kernel
theorem d_law_491 : decode code 491 = .ok (.iconst 0, 1) := by decide +kernel
theorem d_law_492 : decode code 492 = .ok (.laload, 1) := by decide +kernel
theorem d_law_493 : decode code 493 = .ok (.iload 6, 2) := by decide +kernel
theorem d_law_495 : decode code 495 = .ok (.i2l, 1) := by decide +kernel
theorem d_law_496 : decode code 496 = .ok (.lcmp, 1) := by decide +kernel
theorem d_law_497 : decode code 497 = .ok (.ifCond .eq 5, 3) := by decide +kernel
theorem d_law_500 : decode code 500 = .ok (.iconst 0, 1) := by decide +kernel
theorem d_law_501 : decode code 501 = .ok (.ireturn, 1) := by decide +kernel
theorem d_law_502 : decode code 502 = .ok (.goto 363, 3) := by decide +kernel
theorem d_law_505 : decode code 505 = .ok (.aload_n 1, 1) := by decide +kernel
theorem d_law_506 : decode code 506 = .ok (.aload_n 0, 1) := by decide +kernel
theorem d_law_507 : decode code 507 = .ok (.iload 4, 2) := by decide +kernel
theorem d_law_509 : decode code 509 = .ok (.iconst 1, 1) := by decide +kernel
theorem d_law_510 : decode code 510 = .ok (.iadd, 1) := by decide +kernel
theorem d_law_511 : decode code 511 = .ok (.iaload, 1) := by decide +kernel
theorem d_law_512 : decode code 512 = .ok (.aload_n 3, 1) := by decide +kernel
theorem d_law_513 : decode code 513 = .ok (.invokestatic 93, 3) := by decide +kernel
theorem d_law_516 : decode code 516 = .ok (.istore 5, 2) := by decide +kernel
theorem d_law_518 : decode code 518 = .ok (.aload_n 2, 1) := by decide +kernel
theorem d_law_519 : decode code 519 = .ok (.aload_n 0, 1) := by decide +kernel
theorem d_law_520 : decode code 520 = .ok (.iload 4, 2) := by decide +kernel
theorem d_law_522 : decode code 522 = .ok (.iconst 1, 1) := by decide +kernel
theorem d_law_523 : decode code 523 = .ok (.iadd, 1) := by decide +kernel
theorem d_law_524 : decode code 524 = .ok (.iaload, 1) := by decide +kernel
theorem d_law_525 : decode code 525 = .ok (.invokevirtual 95, 3) := by decide +kernel
theorem d_law_528 : decode code 528 = .ok (.istore 6, 2) := by decide +kernel
theorem d_law_530 : decode code 530 = .ok (.aload_n 2, 1) := by decide +kernel
theorem d_law_531 : decode code 531 = .ok (.invokevirtual 66, 3) := by decide +kernel
theorem d_law_534 : decode code 534 = .ok (.iload 5, 2) := by decide +kernel
theorem d_law_536 : decode code 536 = .ok (.if_icmp .eq 5, 3) := by decide +kernel
theorem d_law_539 : decode code 539 = .ok (.iconst 0, 1) := by decide +kernel
theorem d_law_540 : decode code 540 = .ok (.ireturn, 1) := by decide +kernel
theorem d_law_541 : decode code 541 = .ok (.iload 5, 2) := by decide +kernel
theorem d_law_543 : decode code 543 = .ok (.ifCond .ne 15, 3) := by decide +kernel
theorem d_law_546 : decode code 546 = .ok (.aload_n 3, 1) := by decide +kernel
theorem d_law_547 : decode code 547 = .ok (.iconst 0, 1) := by decide +kernel
theorem d_law_548 : decode code 548 = .ok (.laload, 1) := by decide +kernel
theorem d_law_549 : decode code 549 = .ok (.iload 6, 2) := by decide +kernel
theorem d_law_551 : decode code 551 = .ok (.i2l, 1) := by decide +kernel
theorem d_law_552 : decode code 552 = .ok (.lcmp, 1) := by decide +kernel
theorem d_law_553 : decode code 553 = .ok (.ifCond .eq 5, 3) := by decide +kernel
theorem d_law_556 : decode code 556 = .ok (.iconst 0, 1) := by decide +kernel
theorem d_law_557 : decode code 557 = .ok (.ireturn, 1) := by decide +kernel
theorem d_law_558 : decode code 558 = .ok (.goto 307, 3) := by decide +kernel
theorem d_law_561 : decode code 561 = .ok (.aload_n 1, 1) := by decide +kernel
theorem d_law_562 : decode code 562 = .ok (.aload_n 0, 1) := by decide +kernel
theorem d_law_563 : decode code 563 = .ok (.iload 4, 2) := by decide +kernel
theorem d_law_565 : decode code 565 = .ok (.iconst 1, 1) := by decide +kernel
theorem d_law_566 : decode code 566 = .ok (.iadd, 1) := by decide +kernel
theorem d_law_567 : decode code 567 = .ok (.iaload, 1) := by decide +kernel
theorem d_law_568 : decode code 568 = .ok (.aload_n 3, 1) := by decide +kernel
theorem d_law_569 : decode code 569 = .ok (.invokestatic 96, 3) := by decide +kernel
theorem d_law_572 : decode code 572 = .ok (.istore 5, 2) := by decide +kernel
theorem d_law_574 : decode code 574 = .ok (.aload_n 2, 1) := by decide +kernel
theorem d_law_575 : decode code 575 = .ok (.aload_n 0, 1) := by decide +kernel
theorem d_law_576 : decode code 576 = .ok (.iload 4, 2) := by decide +kernel
theorem d_law_578 : decode code 578 = .ok (.iconst 1, 1) := by decide +kernel
theorem d_law_579 : decode code 579 = .ok (.iadd, 1) := by decide +kernel
theorem d_law_580 : decode code 580 = .ok (.iaload, 1) := by decide +kernel
theorem d_law_581 : decode code 581 = .ok (.invokevirtual 98, 3) := by decide +kernel
theorem d_law_584 : decode code 584 = .ok (.istore 6, 2) := by decide +kernel
theorem d_law_586 : decode code 586 = .ok (.aload_n 2, 1) := by decide +kernel
theorem d_law_587 : decode code 587 = .ok (.invokevirtual 66, 3) := by decide +kernel
theorem d_law_590 : decode code 590 = .ok (.iload 5, 2) := by decide +kernel
theorem d_law_592 : decode code 592 = .ok (.if_icmp .eq 5, 3) := by decide +kernel
theorem d_law_595 : decode code 595 = .ok (.iconst 0, 1) := by decide +kernel
theorem d_law_596 : decode code 596 = .ok (.ireturn, 1) := by decide +kernel
theorem d_law_597 : decode code 597 = .ok (.iload 5, 2) := by decide +kernel
theorem d_law_599 : decode code 599 = .ok (.ifCond .ne 15, 3) := by decide +kernel
theorem d_law_602 : decode code 602 = .ok (.aload_n 3, 1) := by decide +kernel
theorem d_law_603 : decode code 603 = .ok (.iconst 0, 1) := by decide +kernel
theorem d_law_604 : decode code 604 = .ok (.laload, 1) := by decide +kernel
theorem d_law_605 : decode code 605 = .ok (.iload 6, 2) := by decide +kernel
theorem d_law_607 : decode code 607 = .ok (.i2l, 1) := by decide +kernel
theorem d_law_608 : decode code 608 = .ok (.lcmp, 1) := by decide +kernel
theorem d_law_609 : decode code 609 = .ok (.ifCond .eq 5, 3) := by decide +kernel
theorem d_law_612 : decode code 612 = .ok (.iconst 0, 1) := by decide +kernel
theorem d_law_613 : decode code 613 = .ok (.ireturn, 1) := by decide +kernel
theorem d_law_614 : decode code 614 = .ok (.goto 251, 3) := by decide +kernel
theorem d_law_617 : decode code 617 = .ok (.aload_n 1, 1) := by decide +kernel
theorem d_law_618 : decode code 618 = .ok (.aload_n 0, 1) := by decide +kernel
theorem d_law_619 : decode code 619 = .ok (.iload 4, 2) := by decide +kernel
theorem d_law_621 : decode code 621 = .ok (.iconst 1, 1) := by decide +kernel
theorem d_law_622 : decode code 622 = .ok (.iadd, 1) := by decide +kernel
theorem d_law_623 : decode code 623 = .ok (.iaload, 1) := by decide +kernel
theorem d_law_624 : decode code 624 = .ok (.aload_n 3, 1) := by decide +kernel
theorem d_law_625 : decode code 625 = .ok (.invokestatic 99, 3) := by decide +kernel
theorem d_law_628 : decode code 628 = .ok (.istore 5, 2) := by decide +kernel
theorem d_law_630 : decode code 630 = .ok (.aload_n 2, 1) := by decide +kernel
theorem d_law_631 : decode code 631 = .ok (.aload_n 0, 1) := by decide +kernel
theorem d_law_632 : decode code 632 = .ok (.iload 4, 2) := by decide +kernel
theorem d_law_634 : decode code 634 = .ok (.iconst 1, 1) := by decide +kernel
theorem d_law_635 : decode code 635 = .ok (.iadd, 1) := by decide +kernel
theorem d_law_636 : decode code 636 = .ok (.iaload, 1) := by decide +kernel
theorem d_law_637 : decode code 637 = .ok (.invokevirtual 101, 3) := by decide +kernel
theorem d_law_640 : decode code 640 = .ok (.istore 6, 2) := by decide +kernel
theorem d_law_642 : decode code 642 = .ok (.aload_n 2, 1) := by decide +kernel
theorem d_law_643 : decode code 643 = .ok (.invokevirtual 66, 3) := by decide +kernel
theorem d_law_646 : decode code 646 = .ok (.iload 5, 2) := by decide +kernel
theorem d_law_648 : decode code 648 = .ok (.if_icmp .eq 5, 3) := by decide +kernel
theorem d_law_651 : decode code 651 = .ok (.iconst 0, 1) := by decide +kernel
theorem d_law_652 : decode code 652 = .ok (.ireturn, 1) := by decide +kernel
theorem d_law_653 : decode code 653 = .ok (.iload 5, 2) := by decide +kernel
theorem d_law_655 : decode code 655 = .ok (.ifCond .ne 15, 3) := by decide +kernel
theorem d_law_658 : decode code 658 = .ok (.aload_n 3, 1) := by decide +kernel
theorem d_law_659 : decode code 659 = .ok (.iconst 0, 1) := by decide +kernel
theorem d_law_660 : decode code 660 = .ok (.laload, 1) := by decide +kernel
theorem d_law_661 : decode code 661 = .ok (.iload 6, 2) := by decide +kernel
theorem d_law_663 : decode code 663 = .ok (.i2l, 1) := by decide +kernel
theorem d_law_664 : decode code 664 = .ok (.lcmp, 1) := by decide +kernel
theorem d_law_665 : decode code 665 = .ok (.ifCond .eq 5, 3) := by decide +kernel
theorem d_law_668 : decode code 668 = .ok (.iconst 0, 1) := by decide +kernel
theorem d_law_669 : decode code 669 = .ok (.ireturn, 1) := by decide +kernel
theorem d_law_670 : decode code 670 = .ok (.goto 195, 3) := by decide +kernel
theorem d_law_673 : decode code 673 = .ok (.aload_n 1, 1) := by decide +kernel
theorem d_law_674 : decode code 674 = .ok (.aload_n 0, 1) := by decide +kernel
theorem d_law_675 : decode code 675 = .ok (.iload 4, 2) := by decide +kernel
theorem d_law_677 : decode code 677 = .ok (.iconst 1, 1) := by decide +kernel
theorem d_law_678 : decode code 678 = .ok (.iadd, 1) := by decide +kernel
theorem d_law_679 : decode code 679 = .ok (.iaload, 1) := by decide +kernel
theorem d_law_680 : decode code 680 = .ok (.aload_n 0, 1) := by decide +kernel
theorem d_law_681 : decode code 681 = .ok (.iload 4, 2) := by decide +kernel
theorem d_law_683 : decode code 683 = .ok (.iconst 2, 1) := by decide +kernel
theorem d_law_684 : decode code 684 = .ok (.iadd, 1) := by decide +kernel
theorem d_law_685 : decode code 685 = .ok (.iaload, 1) := by decide +kernel
theorem d_law_686 : decode code 686 = .ok (.aload_n 3, 1) := by decide +kernel
theorem d_law_687 : decode code 687 = .ok (.invokestatic 102, 3) := by decide +kernel
theorem d_law_690 : decode code 690 = .ok (.istore 5, 2) := by decide +kernel
theorem d_law_692 : decode code 692 = .ok (.aload_n 2, 1) := by decide +kernel
theorem d_law_693 : decode code 693 = .ok (.aload_n 0, 1) := by decide +kernel
theorem d_law_694 : decode code 694 = .ok (.iload 4, 2) := by decide +kernel
theorem d_law_696 : decode code 696 = .ok (.iconst 1, 1) := by decide +kernel
theorem d_law_697 : decode code 697 = .ok (.iadd, 1) := by decide +kernel
theorem d_law_698 : decode code 698 = .ok (.iaload, 1) := by decide +kernel
theorem d_law_699 : decode code 699 = .ok (.aload_n 0, 1) := by decide +kernel
theorem d_law_700 : decode code 700 = .ok (.iload 4, 2) := by decide +kernel
theorem d_law_702 : decode code 702 = .ok (.iconst 2, 1) := by decide +kernel
theorem d_law_703 : decode code 703 = .ok (.iadd, 1) := by decide +kernel
theorem d_law_704 : decode code 704 = .ok (.iaload, 1) := by decide +kernel
theorem d_law_705 : decode code 705 = .ok (.invokevirtual 104, 3) := by decide +kernel
theorem d_law_708 : decode code 708 = .ok (.istore 6, 2) := by decide +kernel
theorem d_law_710 : decode code 710 = .ok (.aload_n 2, 1) := by decide +kernel
theorem d_law_711 : decode code 711 = .ok (.invokevirtual 66, 3) := by decide +kernel
theorem d_law_714 : decode code 714 = .ok (.iload 5, 2) := by decide +kernel
theorem d_law_716 : decode code 716 = .ok (.if_icmp .eq 5, 3) := by decide +kernel
theorem d_law_719 : decode code 719 = .ok (.iconst 0, 1) := by decide +kernel
theorem d_law_720 : decode code 720 = .ok (.ireturn, 1) := by decide +kernel
theorem d_law_721 : decode code 721 = .ok (.iload 5, 2) := by decide +kernel
theorem d_law_723 : decode code 723 = .ok (.ifCond .ne 15, 3) := by decide +kernel
theorem d_law_726 : decode code 726 = .ok (.aload_n 3, 1) := by decide +kernel
theorem d_law_727 : decode code 727 = .ok (.iconst 0, 1) := by decide +kernel
theorem d_law_728 : decode code 728 = .ok (.laload, 1) := by decide +kernel
theorem d_law_729 : decode code 729 = .ok (.iload 6, 2) := by decide +kernel
theorem d_law_731 : decode code 731 = .ok (.i2l, 1) := by decide +kernel
theorem d_law_732 : decode code 732 = .ok (.lcmp, 1) := by decide +kernel
theorem d_law_733 : decode code 733 = .ok (.ifCond .eq 5, 3) := by decide +kernel
theorem d_law_736 : decode code 736 = .ok (.iconst 0, 1) := by decide +kernel
theorem d_law_737 : decode code 737 = .ok (.ireturn, 1) := by decide +kernel
theorem d_law_738 : decode code 738 = .ok (.goto 127, 3) := by decide +kernel
theorem d_law_741 : decode code 741 = .ok (.aload_n 1, 1) := by decide +kernel
theorem d_law_742 : decode code 742 = .ok (.aload_n 0, 1) := by decide +kernel
theorem d_law_743 : decode code 743 = .ok (.iload 4, 2) := by decide +kernel
theorem d_law_745 : decode code 745 = .ok (.iconst 1, 1) := by decide +kernel
theorem d_law_746 : decode code 746 = .ok (.iadd, 1) := by decide +kernel
theorem d_law_747 : decode code 747 = .ok (.iaload, 1) := by decide +kernel
theorem d_law_748 : decode code 748 = .ok (.aload_n 0, 1) := by decide +kernel
theorem d_law_749 : decode code 749 = .ok (.iload 4, 2) := by decide +kernel
theorem d_law_751 : decode code 751 = .ok (.iconst 2, 1) := by decide +kernel
theorem d_law_752 : decode code 752 = .ok (.iadd, 1) := by decide +kernel
theorem d_law_753 : decode code 753 = .ok (.iaload, 1) := by decide +kernel
theorem d_law_754 : decode code 754 = .ok (.aload_n 3, 1) := by decide +kernel
theorem d_law_755 : decode code 755 = .ok (.invokestatic 105, 3) := by decide +kernel
theorem d_law_758 : decode code 758 = .ok (.istore 5, 2) := by decide +kernel
theorem d_law_760 : decode code 760 = .ok (.aload_n 2, 1) := by decide +kernel
theorem d_law_761 : decode code 761 = .ok (.aload_n 0, 1) := by decide +kernel
theorem d_law_762 : decode code 762 = .ok (.iload 4, 2) := by decide +kernel
theorem d_law_764 : decode code 764 = .ok (.iconst 1, 1) := by decide +kernel
theorem d_law_765 : decode code 765 = .ok (.iadd, 1) := by decide +kernel
theorem d_law_766 : decode code 766 = .ok (.iaload, 1) := by decide +kernel
theorem d_law_767 : decode code 767 = .ok (.aload_n 0, 1) := by decide +kernel
theorem d_law_768 : decode code 768 = .ok (.iload 4, 2) := by decide +kernel
theorem d_law_770 : decode code 770 = .ok (.iconst 2, 1) := by decide +kernel
theorem d_law_771 : decode code 771 = .ok (.iadd, 1) := by decide +kernel
theorem d_law_772 : decode code 772 = .ok (.iaload, 1) := by decide +kernel
theorem d_law_773 : decode code 773 = .ok (.invokevirtual 107, 3) := by decide +kernel
theorem d_law_776 : decode code 776 = .ok (.istore 6, 2) := by decide +kernel
theorem d_law_778 : decode code 778 = .ok (.aload_n 2, 1) := by decide +kernel
theorem d_law_779 : decode code 779 = .ok (.invokevirtual 66, 3) := by decide +kernel
theorem d_law_782 : decode code 782 = .ok (.iload 5, 2) := by decide +kernel
theorem d_law_784 : decode code 784 = .ok (.if_icmp .eq 5, 3) := by decide +kernel
theorem d_law_787 : decode code 787 = .ok (.iconst 0, 1) := by decide +kernel
theorem d_law_788 : decode code 788 = .ok (.ireturn, 1) := by decide +kernel
theorem d_law_789 : decode code 789 = .ok (.iload 5, 2) := by decide +kernel
theorem d_law_791 : decode code 791 = .ok (.ifCond .ne 15, 3) := by decide +kernel
theorem d_law_794 : decode code 794 = .ok (.aload_n 3, 1) := by decide +kernel
theorem d_law_795 : decode code 795 = .ok (.iconst 0, 1) := by decide +kernel
theorem d_law_796 : decode code 796 = .ok (.laload, 1) := by decide +kernel
theorem d_law_797 : decode code 797 = .ok (.iload 6, 2) := by decide +kernel
theorem d_law_799 : decode code 799 = .ok (.i2l, 1) := by decide +kernel
theorem d_law_800 : decode code 800 = .ok (.lcmp, 1) := by decide +kernel
theorem d_law_801 : decode code 801 = .ok (.ifCond .eq 5, 3) := by decide +kernel
theorem d_law_804 : decode code 804 = .ok (.iconst 0, 1) := by decide +kernel
theorem d_law_805 : decode code 805 = .ok (.ireturn, 1) := by decide +kernel
theorem d_law_806 : decode code 806 = .ok (.goto 59, 3) := by decide +kernel
theorem d_law_809 : decode code 809 = .ok (.aload_n 1, 1) := by decide +kernel
theorem d_law_810 : decode code 810 = .ok (.aload_n 0, 1) := by decide +kernel
theorem d_law_811 : decode code 811 = .ok (.iload 4, 2) := by decide +kernel
theorem d_law_813 : decode code 813 = .ok (.iconst 1, 1) := by decide +kernel
theorem d_law_814 : decode code 814 = .ok (.iadd, 1) := by decide +kernel
theorem d_law_815 : decode code 815 = .ok (.iaload, 1) := by decide +kernel
theorem d_law_816 : decode code 816 = .ok (.aload_n 3, 1) := by decide +kernel
theorem d_law_817 : decode code 817 = .ok (.invokestatic 108, 3) := by decide +kernel
theorem d_law_820 : decode code 820 = .ok (.istore 5, 2) := by decide +kernel
theorem d_law_822 : decode code 822 = .ok (.aload_n 2, 1) := by decide +kernel
theorem d_law_823 : decode code 823 = .ok (.aload_n 0, 1) := by decide +kernel
theorem d_law_824 : decode code 824 = .ok (.iload 4, 2) := by decide +kernel
theorem d_law_826 : decode code 826 = .ok (.iconst 1, 1) := by decide +kernel
theorem d_law_827 : decode code 827 = .ok (.iadd, 1) := by decide +kernel
theorem d_law_828 : decode code 828 = .ok (.iaload, 1) := by decide +kernel
theorem d_law_829 : decode code 829 = .ok (.invokevirtual 110, 3) := by decide +kernel
theorem d_law_832 : decode code 832 = .ok (.istore 6, 2) := by decide +kernel
theorem d_law_834 : decode code 834 = .ok (.aload_n 2, 1) := by decide +kernel
theorem d_law_835 : decode code 835 = .ok (.invokevirtual 66, 3) := by decide +kernel
theorem d_law_838 : decode code 838 = .ok (.iload 5, 2) := by decide +kernel
theorem d_law_840 : decode code 840 = .ok (.if_icmp .eq 5, 3) := by decide +kernel
theorem d_law_843 : decode code 843 = .ok (.iconst 0, 1) := by decide +kernel
theorem d_law_844 : decode code 844 = .ok (.ireturn, 1) := by decide +kernel
theorem d_law_845 : decode code 845 = .ok (.iload 5, 2) := by decide +kernel
theorem d_law_847 : decode code 847 = .ok (.ifCond .ne 15, 3) := by decide +kernel
theorem d_law_850 : decode code 850 = .ok (.aload_n 3, 1) := by decide +kernel
theorem d_law_851 : decode code 851 = .ok (.iconst 0, 1) := by decide +kernel
theorem d_law_852 : decode code 852 = .ok (.laload, 1) := by decide +kernel
theorem d_law_853 : decode code 853 = .ok (.iload 6, 2) := by decide +kernel
theorem d_law_855 : decode code 855 = .ok (.i2l, 1) := by decide +kernel
theorem d_law_856 : decode code 856 = .ok (.lcmp, 1) := by decide +kernel
theorem d_law_857 : decode code 857 = .ok (.ifCond .eq 5, 3) := by decide +kernel
theorem d_law_860 : decode code 860 = .ok (.iconst 0, 1) := by decide +kernel
theorem d_law_861 : decode code 861 = .ok (.ireturn, 1) := by decide +kernel
theorem d_law_862 : decode code 862 = .ok (.goto 3, 3) := by decide +kernel
theorem d_law_865 : decode code 865 = .ok (.iinc 4 6, 3) := by decide +kernel
theorem d_law_868 : decode code 868 = .ok (.goto (-845), 3) := by decide +kernel
theorem d_law_871 : decode code 871 = .ok (.iconst 1, 1) := by decide +kernel
theorem d_law_872 : decode code 872 = .ok (.ireturn, 1) := by decide +kernel
def RelE (ar : Nat → Nat → Int32) (fl : Nat → Int32) (br : Nat → Nat → Int32) (ml : Nat → Int32) : Prop := ∃ cn rn bn mn, Rel ar fl br ml cn rn bn mn
/-- what the law's walk stands on -/
def LC (p : Program) (s : State) (m : MethodId) (meth : Method) (c : Code) (b L : Nat) (xs : Nat → Int32) (A : Nat → Prop) : Prop :=
  MC p s m #[.ref b] meth c R_LW code 7 ∧ XSt s ∧ (∀ q, A q → s.heap.size ≤ q) ∧ va_X b L xs s s.heap ∧ b < s.heap.size ∧ L ≤ 3072
section LWO
variable {p : Program} {l : Launch} {e : Env} {R : Room} {s : State} {m : MethodId} {args : Array Value} {below : List Frame} {meth : Method} {c : Code} {H : Heap} {locs : List Loc} {cells slots : Nat} {Q : State → Prop}
variable {own : String} {cc : ByteArray} {nL pc : Nat} {ls : Array Slot} {rest : List Value} {g : Geo} {A : Nat → Prop} {w x : va_W} {b L i : Nat} {xs : Nat → Int32} {ad ad2 : Nat → Nat} {ar br : Nat → Nat → Int32} {fl ml : Nat → Int32} {ao : Nat} {fo : Nat → Int64}
theorem q_lcmpE (hexec : p.tables.exec = Jvm.exec) (hb : c.code = cc) {v : Int64} (hdg : decode cc pc = .ok (.lcmp, 1)) (k : W p l e R s m args below meth c H locs cells slots Q (F0 m (pc + 1) ls (.int 0 :: rest))) : W p l e R s m args below meth c H locs cells slots Q (F0 m pc ls (.long v :: .long v :: rest)) := by
  intro T hT X
  obtain ⟨t, a, b⟩ := k T hT X
  refine ⟨t, ?_, b⟩
  have hv : ¬ v < v := Int64.lt_irrefl
  jvm_step X.here [X.here.top, hexec, hb, hdg, hv]
  exact a
theorem q_ldO {a : Nat} {f : Nat → Int64} (M : MC p s m args meth c own cc nL) (hB : CI g A s (w ++ xo g a f) H locs) (hdg : decode cc pc = .ok (.laload, 1))
    (kk : W p l e R s m args below meth c H locs cells slots Q (F0 m (pc + 1) ls (.long (f 0) :: rest))) : W p l e R s m args below meth c H locs cells slots Q (F0 m pc ls (.int 0 :: .ref a :: rest)) :=
  va_lald M.1 M.2.1 hB.1 hB.2.2.1 w.length 2 xo_at rfl (show vp_in 0 1 from vp_in_nI (n := 0) (by decide) (by decide)) hdg kk
theorem q_arg (C : LC p s m meth c b L xs A) (hI : CI g A s w H locs) {k : Nat} {kz : Int} (h0 : ls[0]? = some (.val (.ref b))) (h4 : ls[4]? = some (.val (.int (nI i)))) (hk : i + k < L)
    (d0 : decode code pc = .ok (.aload_n 0, 1)) (d1 : decode code (pc + 1) = .ok (.iload 4, 2)) (d2 : decode code (pc + 1 + 2) = .ok (.iconst kz, 1)) (d3 : decode code (pc + 1 + 2 + 1) = .ok (.iadd, 1)) (d4 : decode code (pc + 1 + 2 + 1 + 1) = .ok (.iaload, 1)) (hz : Int32.ofInt kz = nI k)
    (kk : W p l e R s m args below meth c H locs cells slots Q (F0 m (pc + 6) ls (.int (xs (i + k)) :: rest))) : W p l e R s m args below meth c H locs cells slots Q (F0 m pc ls rest) := by
  obtain ⟨M, hX, hA, hS, hbl, hL⟩ := C
  have hx := M.1
  have hb := M.2.1
  refine lv_aload_n hx hb d0 rfl h0 ?_
  refine lv_iload hx hb d1 h4 ?_
  refine lv_iconst (v := nI k) hx hb d2 hz ?_
  refine lv_iadd hx hb d3 ?_
  rw [nI_add]
  refine va_sld hx hb hS hbl (fun h => by have := hA b h; omega) hI.2.2.2.2.1 (vp_in_nI hk (by omega)) d4 ?_
  rw [nI_clamp (by omega)]
  exact kk
theorem ok_LW_property : OKw y_LW_property b_LW_property 5 (some .int) [(0, 7, 10, 13), (0, 7, 14, 15)] 4 := ⟨m2_130, m1_0, m2_129, by decide, by decide, by decide +kernel⟩
set_option maxRecDepth 100000 in
theorem op_property (C : LC p s m meth c b L xs A) (hI : CI g A s (cw g ad ar fl ++ xo g ao fo ++ mw g ad2 br ml) H locs) (hl : lv_has ls 7 [(0, .ref b), (1, .ref (ad 0)), (2, .ref (ad2 0)), (3, .ref ao), (4, .int (nI i))]) (hi : i + 6 ≤ L) {S1 S2 : Type} {rm1 rm2 : Room} {mc ms : Nat} {post1 : Int32 → S1 → Prop} {w1 : S1 → va_W} {post2 : S2 → Prop} {w2 : S2 → va_W} (hC : cWi l y_LW_property (.codeWith y_LW_property b_LW_property 5 (some .int) [(0, 7, 10, 13), (0, 7, 14, 15)] :: gw) rm1 g [.ref (ad 0), .int (xs (i + 1)), .int (xs (i + 2)), .int (xs (i + 3))] (cw g ad ar fl) post1 w1 mc ms) (hM : cMv l y_MD_property (.code y_MD_property b_MD_property 5 none :: gw) rm2 g [.ref (ad2 0), .int (xs (i + 1)), .int (xs (i + 2)), .int (xs (i + 3))] (mw g ad2 br ml) post2 w2 0 0) (hrm1 : rm1.cells = mc ∧ rm1.slots = ms) (hR1 : rm1.frames + 1 ≤ R.frames ∧ 8 + (5 + 11) + rm1.locals ≤ R.locals) (hrm2 : rm2.cells = 0 ∧ rm2.slots = 0) (hR2 : rm2.frames + 1 ≤ R.frames ∧ 8 + (5 + 11) + rm2.locals ≤ R.locals) (hR3 : 1 ≤ R.frames ∧ 20 ≤ R.locals) (hcs : cells + mc ≤ R.cells ∧ slots + ms ≤ R.slots) (hT : ∀ r1 u1, post1 r1 u1 → ∀ u2, post2 u2 → ∃ ar' fl' br' ml', w1 u1 = cw g ad ar' fl' ∧ w2 u2 = mw g ad2 br' ml' ∧ ml' 0 = r1 ∧ RelE ar' fl' br' ml') (kk : ∀ ar' fl' fo' br' ml' (H : Heap) (locs : List Loc) (ls : Array Slot), RelE ar' fl' br' ml' → CI g A s (cw g ad ar' fl' ++ xo g ao fo' ++ mw g ad2 br' ml') H locs → lv_has ls 7 [(0, .ref b), (1, .ref (ad 0)), (2, .ref (ad2 0)), (3, .ref ao), (4, .int (nI i))] → W p l e R s m #[.ref b] below meth c H locs (cells + mc) (slots + ms) Q (F0 m 865 ls [])) : W p l e R s m #[.ref b] below meth c H locs cells slots Q (F0 m 108 ls []) := by
  have M := C.1
  have hx := M.1
  have hb := M.2.1
  refine lv_aload_n hx hb d_law_108 rfl (lv_at hl 1 rfl) ?_
  refine q_arg C hI (k := 1) (lv_at hl 0 rfl) (lv_at hl 4 rfl) (by omega) d_law_109 d_law_110 d_law_112 d_law_113 d_law_114 (by decide) ?_
  refine q_arg C hI (k := 2) (lv_at hl 0 rfl) (lv_at hl 4 rfl) (by omega) d_law_115 d_law_116 d_law_118 d_law_119 d_law_120 (by decide) ?_
  refine q_arg C hI (k := 3) (lv_at hl 0 rfl) (lv_at hl 4 rfl) (by omega) d_law_121 d_law_122 d_law_124 d_law_125 d_law_126 (by decide) ?_
  rw [List.append_assoc] at hI
  refine q_callW [.ref (ad 0), .int (xs (i + 1)), .int (xs (i + 2)), .int (xs (i + 3))] M C.2.1 C.2.2.1 hI hC ok_LW_property m2_128 rfl rfl hl.1 hrm1 hR1 (Nat.le_of_ble_eq_true rfl) hcs d_law_127 (fun r1 u1 H locs hp1 hI => ?_)
  refine lv_istore (lv' := [(5, .int r1), (0, .ref b), (1, .ref (ad 0)), (2, .ref (ad2 0)), (3, .ref ao), (4, .int (nI i))]) hx hb d_law_130 hl (by decide) rfl (fun ls hl => ?_)
  refine lv_aload_n hx hb d_law_132 rfl (lv_at hl 3 rfl) ?_
  refine q_arg C hI (k := 1) (lv_at hl 1 rfl) (lv_at hl 5 rfl) (by omega) d_law_133 d_law_134 d_law_136 d_law_137 d_law_138 (by decide) ?_
  refine q_arg C hI (k := 2) (lv_at hl 1 rfl) (lv_at hl 5 rfl) (by omega) d_law_139 d_law_140 d_law_142 d_law_143 d_law_144 (by decide) ?_
  refine q_arg C hI (k := 3) (lv_at hl 1 rfl) (lv_at hl 5 rfl) (by omega) d_law_145 d_law_146 d_law_148 d_law_149 d_law_150 (by decide) ?_
  rw [← List.append_assoc] at hI
  refine q_callvB [.int (xs (i + 1)), .int (xs (i + 2)), .int (xs (i + 3))] M hI.swap hM ok_MD_property m5_48 m5_49 m5_50 0 rfl rfl rfl rfl hl.1 hrm2 hR2 (Nat.le_of_ble_eq_true rfl) hcs d_law_151 (fun u2 H locs hp2 hI => ?_)
  obtain ⟨ar', fl', br', ml', e1, e2, e3, hRel⟩ := hT r1 u1 hp1 u2 hp2
  rw [e1, e2] at hI
  refine lv_aload_n hx hb d_law_154 rfl (lv_at hl 3 rfl) ?_
  refine q_calliB [] M hI (c_MD_thrown l g ad2 br' ml') ok_MD_thrown m5_44 m5_45 m5_46 0 rfl rfl rfl rfl hl.1 ⟨rfl, rfl⟩ hR3 (Nat.le_of_ble_eq_true rfl) hcs d_law_155 (fun r3 u3 H locs hp3 hI => ?_)
  refine lv_iload hx hb d_law_158 (lv_at hl 0 rfl) ?_
  refine lv_icmp_eq (tgt := 165) hx hb d_law_160 (by decide) (fun _ => ?_) (fun hne => absurd (hp3.trans e3) hne)
  refine lv_goto (tgt := 865) hx hb d_law_165 (by decide) ?_
  exact kk ar' fl' fo br' ml' _ _ _ hRel (by rw [List.append_assoc]; exact hI.swap) (lv_sub hl [1, 2, 3, 4, 5] rfl)
theorem ok_LW_bracket : OKw y_LW_bracket b_LW_bracket 4 (some .int) [(0, 6, 9, 13), (0, 6, 12, 15)] 3 := ⟨m2_232, m1_0, m2_231, by decide, by decide, by decide +kernel⟩
set_option maxRecDepth 100000 in
theorem op_bracket (C : LC p s m meth c b L xs A) (hI : CI g A s (cw g ad ar fl ++ xo g ao fo ++ mw g ad2 br ml) H locs) (hl : lv_has ls 7 [(0, .ref b), (1, .ref (ad 0)), (2, .ref (ad2 0)), (3, .ref ao), (4, .int (nI i))]) (hi : i + 6 ≤ L) {S1 S2 : Type} {rm1 rm2 : Room} {mc ms : Nat} {post1 : Int32 → S1 → Prop} {w1 : S1 → va_W} {post2 : S2 → Prop} {w2 : S2 → va_W} (hC : cWi l y_LW_bracket (.codeWith y_LW_bracket b_LW_bracket 4 (some .int) [(0, 6, 9, 13), (0, 6, 12, 15)] :: gw) rm1 g [.ref (ad 0), .int (xs (i + 1)), .int (xs (i + 2))] (cw g ad ar fl) post1 w1 mc ms) (hM : cMv l y_MD_bracket (.code y_MD_bracket b_MD_bracket 4 none :: gw) rm2 g [.ref (ad2 0), .int (xs (i + 1)), .int (xs (i + 2))] (mw g ad2 br ml) post2 w2 0 0) (hrm1 : rm1.cells = mc ∧ rm1.slots = ms) (hR1 : rm1.frames + 1 ≤ R.frames ∧ 8 + (4 + 11) + rm1.locals ≤ R.locals) (hrm2 : rm2.cells = 0 ∧ rm2.slots = 0) (hR2 : rm2.frames + 1 ≤ R.frames ∧ 8 + (4 + 11) + rm2.locals ≤ R.locals) (hR3 : 1 ≤ R.frames ∧ 20 ≤ R.locals) (hcs : cells + mc ≤ R.cells ∧ slots + ms ≤ R.slots) (hT : ∀ r1 u1, post1 r1 u1 → ∀ u2, post2 u2 → ∃ ar' fl' br' ml', w1 u1 = cw g ad ar' fl' ∧ w2 u2 = mw g ad2 br' ml' ∧ ml' 0 = r1 ∧ RelE ar' fl' br' ml') (kk : ∀ ar' fl' fo' br' ml' (H : Heap) (locs : List Loc) (ls : Array Slot), RelE ar' fl' br' ml' → CI g A s (cw g ad ar' fl' ++ xo g ao fo' ++ mw g ad2 br' ml') H locs → lv_has ls 7 [(0, .ref b), (1, .ref (ad 0)), (2, .ref (ad2 0)), (3, .ref ao), (4, .int (nI i))] → W p l e R s m #[.ref b] below meth c H locs (cells + mc) (slots + ms) Q (F0 m 865 ls [])) : W p l e R s m #[.ref b] below meth c H locs cells slots Q (F0 m 168 ls []) := by
  have M := C.1
  have hx := M.1
  have hb := M.2.1
  refine lv_aload_n hx hb d_law_168 rfl (lv_at hl 1 rfl) ?_
  refine q_arg C hI (k := 1) (lv_at hl 0 rfl) (lv_at hl 4 rfl) (by omega) d_law_169 d_law_170 d_law_172 d_law_173 d_law_174 (by decide) ?_
  refine q_arg C hI (k := 2) (lv_at hl 0 rfl) (lv_at hl 4 rfl) (by omega) d_law_175 d_law_176 d_law_178 d_law_179 d_law_180 (by decide) ?_
  rw [List.append_assoc] at hI
  refine q_callW [.ref (ad 0), .int (xs (i + 1)), .int (xs (i + 2))] M C.2.1 C.2.2.1 hI hC ok_LW_bracket m2_230 rfl rfl hl.1 hrm1 hR1 (Nat.le_of_ble_eq_true rfl) hcs d_law_181 (fun r1 u1 H locs hp1 hI => ?_)
  refine lv_istore (lv' := [(5, .int r1), (0, .ref b), (1, .ref (ad 0)), (2, .ref (ad2 0)), (3, .ref ao), (4, .int (nI i))]) hx hb d_law_184 hl (by decide) rfl (fun ls hl => ?_)
  refine lv_aload_n hx hb d_law_186 rfl (lv_at hl 3 rfl) ?_
  refine q_arg C hI (k := 1) (lv_at hl 1 rfl) (lv_at hl 5 rfl) (by omega) d_law_187 d_law_188 d_law_190 d_law_191 d_law_192 (by decide) ?_
  refine q_arg C hI (k := 2) (lv_at hl 1 rfl) (lv_at hl 5 rfl) (by omega) d_law_193 d_law_194 d_law_196 d_law_197 d_law_198 (by decide) ?_
  rw [← List.append_assoc] at hI
  refine q_callvB [.int (xs (i + 1)), .int (xs (i + 2))] M hI.swap hM ok_MD_bracket m5_60 m5_61 m5_62 0 rfl rfl rfl rfl hl.1 hrm2 hR2 (Nat.le_of_ble_eq_true rfl) hcs d_law_199 (fun u2 H locs hp2 hI => ?_)
  obtain ⟨ar', fl', br', ml', e1, e2, e3, hRel⟩ := hT r1 u1 hp1 u2 hp2
  rw [e1, e2] at hI
  refine lv_aload_n hx hb d_law_202 rfl (lv_at hl 3 rfl) ?_
  refine q_calliB [] M hI (c_MD_thrown l g ad2 br' ml') ok_MD_thrown m5_44 m5_45 m5_46 0 rfl rfl rfl rfl hl.1 ⟨rfl, rfl⟩ hR3 (Nat.le_of_ble_eq_true rfl) hcs d_law_203 (fun r3 u3 H locs hp3 hI => ?_)
  refine lv_iload hx hb d_law_206 (lv_at hl 0 rfl) ?_
  refine lv_icmp_eq (tgt := 213) hx hb d_law_208 (by decide) (fun _ => ?_) (fun hne => absurd (hp3.trans e3) hne)
  refine lv_goto (tgt := 865) hx hb d_law_213 (by decide) ?_
  exact kk ar' fl' fo br' ml' _ _ _ hRel (by rw [List.append_assoc]; exact hI.swap) (lv_sub hl [1, 2, 3, 4, 5] rfl)
theorem ok_LW_mirror : OKw y_LW_mirror b_LW_mirror 4 (some .int) [(0, 6, 9, 13), (0, 6, 12, 15)] 3 := ⟨m3_26, m1_0, m3_25, by decide, by decide, by decide +kernel⟩
set_option maxRecDepth 100000 in
theorem op_mirror (C : LC p s m meth c b L xs A) (hI : CI g A s (cw g ad ar fl ++ xo g ao fo ++ mw g ad2 br ml) H locs) (hl : lv_has ls 7 [(0, .ref b), (1, .ref (ad 0)), (2, .ref (ad2 0)), (3, .ref ao), (4, .int (nI i))]) (hi : i + 6 ≤ L) {S1 S2 : Type} {rm1 rm2 : Room} {mc ms : Nat} {post1 : Int32 → S1 → Prop} {w1 : S1 → va_W} {post2 : S2 → Prop} {w2 : S2 → va_W} (hC : cWi l y_LW_mirror (.codeWith y_LW_mirror b_LW_mirror 4 (some .int) [(0, 6, 9, 13), (0, 6, 12, 15)] :: gw) rm1 g [.ref (ad 0), .int (xs (i + 1)), .int (xs (i + 2))] (cw g ad ar fl) post1 w1 mc ms) (hM : cMv l y_MD_mirror (.code y_MD_mirror b_MD_mirror 4 none :: gw) rm2 g [.ref (ad2 0), .int (xs (i + 1)), .int (xs (i + 2))] (mw g ad2 br ml) post2 w2 0 0) (hrm1 : rm1.cells = mc ∧ rm1.slots = ms) (hR1 : rm1.frames + 1 ≤ R.frames ∧ 8 + (4 + 11) + rm1.locals ≤ R.locals) (hrm2 : rm2.cells = 0 ∧ rm2.slots = 0) (hR2 : rm2.frames + 1 ≤ R.frames ∧ 8 + (4 + 11) + rm2.locals ≤ R.locals) (hR3 : 1 ≤ R.frames ∧ 20 ≤ R.locals) (hcs : cells + mc ≤ R.cells ∧ slots + ms ≤ R.slots) (hT : ∀ r1 u1, post1 r1 u1 → ∀ u2, post2 u2 → ∃ ar' fl' br' ml', w1 u1 = cw g ad ar' fl' ∧ w2 u2 = mw g ad2 br' ml' ∧ ml' 0 = r1 ∧ RelE ar' fl' br' ml') (kk : ∀ ar' fl' fo' br' ml' (H : Heap) (locs : List Loc) (ls : Array Slot), RelE ar' fl' br' ml' → CI g A s (cw g ad ar' fl' ++ xo g ao fo' ++ mw g ad2 br' ml') H locs → lv_has ls 7 [(0, .ref b), (1, .ref (ad 0)), (2, .ref (ad2 0)), (3, .ref ao), (4, .int (nI i))] → W p l e R s m #[.ref b] below meth c H locs (cells + mc) (slots + ms) Q (F0 m 865 ls [])) : W p l e R s m #[.ref b] below meth c H locs cells slots Q (F0 m 216 ls []) := by
  have M := C.1
  have hx := M.1
  have hb := M.2.1
  refine lv_aload_n hx hb d_law_216 rfl (lv_at hl 1 rfl) ?_
  refine q_arg C hI (k := 1) (lv_at hl 0 rfl) (lv_at hl 4 rfl) (by omega) d_law_217 d_law_218 d_law_220 d_law_221 d_law_222 (by decide) ?_
  refine q_arg C hI (k := 2) (lv_at hl 0 rfl) (lv_at hl 4 rfl) (by omega) d_law_223 d_law_224 d_law_226 d_law_227 d_law_228 (by decide) ?_
  rw [List.append_assoc] at hI
  refine q_callW [.ref (ad 0), .int (xs (i + 1)), .int (xs (i + 2))] M C.2.1 C.2.2.1 hI hC ok_LW_mirror m3_24 rfl rfl hl.1 hrm1 hR1 (Nat.le_of_ble_eq_true rfl) hcs d_law_229 (fun r1 u1 H locs hp1 hI => ?_)
  refine lv_istore (lv' := [(5, .int r1), (0, .ref b), (1, .ref (ad 0)), (2, .ref (ad2 0)), (3, .ref ao), (4, .int (nI i))]) hx hb d_law_232 hl (by decide) rfl (fun ls hl => ?_)
  refine lv_aload_n hx hb d_law_234 rfl (lv_at hl 3 rfl) ?_
  refine q_arg C hI (k := 1) (lv_at hl 1 rfl) (lv_at hl 5 rfl) (by omega) d_law_235 d_law_236 d_law_238 d_law_239 d_law_240 (by decide) ?_
  refine q_arg C hI (k := 2) (lv_at hl 1 rfl) (lv_at hl 5 rfl) (by omega) d_law_241 d_law_242 d_law_244 d_law_245 d_law_246 (by decide) ?_
  rw [← List.append_assoc] at hI
  refine q_callvB [.int (xs (i + 1)), .int (xs (i + 2))] M hI.swap hM ok_MD_mirror m5_76 m5_77 m5_78 0 rfl rfl rfl rfl hl.1 hrm2 hR2 (Nat.le_of_ble_eq_true rfl) hcs d_law_247 (fun u2 H locs hp2 hI => ?_)
  obtain ⟨ar', fl', br', ml', e1, e2, e3, hRel⟩ := hT r1 u1 hp1 u2 hp2
  rw [e1, e2] at hI
  refine lv_aload_n hx hb d_law_250 rfl (lv_at hl 3 rfl) ?_
  refine q_calliB [] M hI (c_MD_thrown l g ad2 br' ml') ok_MD_thrown m5_44 m5_45 m5_46 0 rfl rfl rfl rfl hl.1 ⟨rfl, rfl⟩ hR3 (Nat.le_of_ble_eq_true rfl) hcs d_law_251 (fun r3 u3 H locs hp3 hI => ?_)
  refine lv_iload hx hb d_law_254 (lv_at hl 0 rfl) ?_
  refine lv_icmp_eq (tgt := 261) hx hb d_law_256 (by decide) (fun _ => ?_) (fun hne => absurd (hp3.trans e3) hne)
  refine lv_goto (tgt := 865) hx hb d_law_261 (by decide) ?_
  exact kk ar' fl' fo br' ml' _ _ _ hRel (by rw [List.append_assoc]; exact hI.swap) (lv_sub hl [1, 2, 3, 4, 5] rfl)
theorem ok_LW_add : OKw y_LW_add b_LW_add 8 (some .int) [(0, 16, 19, 13), (0, 16, 23, 15)] 7 := ⟨m3_33, m1_0, m3_32, by decide, by decide, by decide +kernel⟩
set_option maxRecDepth 100000 in
theorem op_add (C : LC p s m meth c b L xs A) (hI : CI g A s (cw g ad ar fl ++ xo g ao fo ++ mw g ad2 br ml) H locs) (hl : lv_has ls 7 [(0, .ref b), (1, .ref (ad 0)), (2, .ref (ad2 0)), (3, .ref ao), (4, .int (nI i))]) (hi : i + 6 ≤ L) {S1 S2 : Type} {rm1 rm2 : Room} {mc ms : Nat} {post1 : Int32 → S1 → Prop} {w1 : S1 → va_W} {post2 : Int32 → S2 → Prop} {w2 : S2 → va_W} (hC : cWi l y_LW_add (.codeWith y_LW_add b_LW_add 8 (some .int) [(0, 16, 19, 13), (0, 16, 23, 15)] :: gw) rm1 g [.ref (ad 0), .int (xs (i + 1)), .int (xs (i + 2)), .int (xs (i + 3)), .int (xs (i + 4)), .int (xs (i + 5)), .ref ao] (cw g ad ar fl ++ xo g ao fo) post1 w1 mc ms) (hM : cMi l y_MD_add (.code y_MD_add b_MD_add 9 (some .int) :: gw) rm2 g [.ref (ad2 0), .int (xs (i + 1)), .int (xs (i + 2)), .int (xs (i + 3)), .int (xs (i + 4)), .int (xs (i + 5))] (mw g ad2 br ml) post2 w2 0 0) (hrm1 : rm1.cells = mc ∧ rm1.slots = ms) (hR1 : rm1.frames + 1 ≤ R.frames ∧ 8 + (8 + 11) + rm1.locals ≤ R.locals) (hrm2 : rm2.cells = 0 ∧ rm2.slots = 0) (hR2 : rm2.frames + 1 ≤ R.frames ∧ 8 + (9 + 11) + rm2.locals ≤ R.locals) (hR3 : 1 ≤ R.frames ∧ 20 ≤ R.locals) (hcs : cells + mc ≤ R.cells ∧ slots + ms ≤ R.slots) (hT : ∀ r1 u1, post1 r1 u1 → ∀ r2 u2, post2 r2 u2 → ∃ ar' fl' fo' br' ml', w1 u1 = cw g ad ar' fl' ++ xo g ao fo' ∧ w2 u2 = mw g ad2 br' ml' ∧ ml' 0 = r1 ∧ (r1 = 0 → fo' 0 = r2.toInt64) ∧ RelE ar' fl' br' ml') (kk : ∀ ar' fl' fo' br' ml' (H : Heap) (locs : List Loc) (ls : Array Slot), RelE ar' fl' br' ml' → CI g A s (cw g ad ar' fl' ++ xo g ao fo' ++ mw g ad2 br' ml') H locs → lv_has ls 7 [(0, .ref b), (1, .ref (ad 0)), (2, .ref (ad2 0)), (3, .ref ao), (4, .int (nI i))] → W p l e R s m #[.ref b] below meth c H locs (cells + mc) (slots + ms) Q (F0 m 865 ls [])) : W p l e R s m #[.ref b] below meth c H locs cells slots Q (F0 m 264 ls []) := by
  have M := C.1
  have hx := M.1
  have hb := M.2.1
  refine lv_aload_n hx hb d_law_264 rfl (lv_at hl 1 rfl) ?_
  refine q_arg C hI (k := 1) (lv_at hl 0 rfl) (lv_at hl 4 rfl) (by omega) d_law_265 d_law_266 d_law_268 d_law_269 d_law_270 (by decide) ?_
  refine q_arg C hI (k := 2) (lv_at hl 0 rfl) (lv_at hl 4 rfl) (by omega) d_law_271 d_law_272 d_law_274 d_law_275 d_law_276 (by decide) ?_
  refine q_arg C hI (k := 3) (lv_at hl 0 rfl) (lv_at hl 4 rfl) (by omega) d_law_277 d_law_278 d_law_280 d_law_281 d_law_282 (by decide) ?_
  refine q_arg C hI (k := 4) (lv_at hl 0 rfl) (lv_at hl 4 rfl) (by omega) d_law_283 d_law_284 d_law_286 d_law_287 d_law_288 (by decide) ?_
  refine q_arg C hI (k := 5) (lv_at hl 0 rfl) (lv_at hl 4 rfl) (by omega) d_law_289 d_law_290 d_law_292 d_law_293 d_law_294 (by decide) ?_
  refine lv_aload_n hx hb d_law_295 rfl (lv_at hl 3 rfl) ?_
  refine q_callW [.ref (ad 0), .int (xs (i + 1)), .int (xs (i + 2)), .int (xs (i + 3)), .int (xs (i + 4)), .int (xs (i + 5)), .ref ao] M C.2.1 C.2.2.1 hI hC ok_LW_add m3_31 rfl rfl hl.1 hrm1 hR1 (Nat.le_of_ble_eq_true rfl) hcs d_law_296 (fun r1 u1 H locs hp1 hI => ?_)
  refine lv_istore (lv' := [(5, .int r1), (0, .ref b), (1, .ref (ad 0)), (2, .ref (ad2 0)), (3, .ref ao), (4, .int (nI i))]) hx hb d_law_299 hl (by decide) rfl (fun ls hl => ?_)
  refine lv_aload_n hx hb d_law_301 rfl (lv_at hl 3 rfl) ?_
  refine q_arg C hI (k := 1) (lv_at hl 1 rfl) (lv_at hl 5 rfl) (by omega) d_law_302 d_law_303 d_law_305 d_law_306 d_law_307 (by decide) ?_
  refine q_arg C hI (k := 2) (lv_at hl 1 rfl) (lv_at hl 5 rfl) (by omega) d_law_308 d_law_309 d_law_311 d_law_312 d_law_313 (by decide) ?_
  refine q_arg C hI (k := 3) (lv_at hl 1 rfl) (lv_at hl 5 rfl) (by omega) d_law_314 d_law_315 d_law_317 d_law_318 d_law_319 (by decide) ?_
  refine q_arg C hI (k := 4) (lv_at hl 1 rfl) (lv_at hl 5 rfl) (by omega) d_law_320 d_law_321 d_law_323 d_law_324 d_law_325 (by decide) ?_
  refine q_arg C hI (k := 5) (lv_at hl 1 rfl) (lv_at hl 5 rfl) (by omega) d_law_326 d_law_327 d_law_329 d_law_330 d_law_331 (by decide) ?_
  refine q_calliB [.int (xs (i + 1)), .int (xs (i + 2)), .int (xs (i + 3)), .int (xs (i + 4)), .int (xs (i + 5))] M hI.swap hM ok_MD_add m5_84 m5_85 m5_86 0 rfl rfl rfl rfl hl.1 hrm2 hR2 (Nat.le_of_ble_eq_true rfl) hcs d_law_332 (fun r2 u2 H locs hp2 hI => ?_)
  obtain ⟨ar', fl', fo', br', ml', e1, e2, e3, e4, hRel⟩ := hT r1 u1 hp1 r2 u2 hp2
  rw [e1, e2] at hI
  refine lv_istore (lv' := [(6, .int r2), (5, .int r1), (0, .ref b), (1, .ref (ad 0)), (2, .ref (ad2 0)), (3, .ref ao), (4, .int (nI i))]) hx hb d_law_335 hl (by decide) rfl (fun ls hl => ?_)
  refine lv_aload_n hx hb d_law_337 rfl (lv_at hl 4 rfl) ?_
  refine q_calliB [] M hI (c_MD_thrown l g ad2 br' ml') ok_MD_thrown m5_44 m5_45 m5_46 0 rfl rfl rfl rfl hl.1 ⟨rfl, rfl⟩ hR3 (Nat.le_of_ble_eq_true rfl) hcs d_law_338 (fun r3 u3 H locs hp3 hI => ?_)
  refine lv_iload hx hb d_law_341 (lv_at hl 1 rfl) ?_
  refine lv_icmp_eq (tgt := 348) hx hb d_law_343 (by decide) (fun _ => ?_) (fun hne => absurd (hp3.trans e3) hne)
  have hdone : ∀ (ls : Array Slot), lv_has ls 7 [(6, .int r2), (5, .int r1), (0, .ref b), (1, .ref (ad 0)), (2, .ref (ad2 0)), (3, .ref ao), (4, .int (nI i))] → W p l e R s m #[.ref b] below meth c H locs (cells + mc) (slots + ms) Q (F0 m 365 ls []) := by
    intro ls hl
    refine lv_goto (tgt := 865) hx hb d_law_365 (by decide) ?_
    exact kk ar' fl' fo' br' ml' _ _ _ hRel hI.swap (lv_sub hl [2, 3, 4, 5, 6] rfl)
  refine lv_iload hx hb d_law_348 (lv_at hl 1 rfl) ?_
  refine lv_if_ne (tgt := 365) hx hb d_law_350 (by decide) (fun _ => hdone _ hl) (fun hz => ?_)
  refine lv_aload_n hx hb d_law_353 rfl (lv_at hl 5 rfl) ?_
  refine lv_iconst (v := 0) hx hb d_law_354 (by decide) ?_
  refine q_ldO M hI.swap.left d_law_355 ?_
  refine lv_iload hx hb d_law_356 (lv_at hl 0 rfl) ?_
  refine lv_i2l (v := fo' 0) hx hb d_law_358 (e4 hz).symm ?_
  refine q_lcmpE hx hb d_law_359 ?_
  refine lv_if_eq (tgt := 365) hx hb d_law_360 (by decide) (fun _ => hdone _ hl) (fun hz => absurd rfl hz)
theorem ok_LW_resolve : OKw y_LW_resolve b_LW_resolve 4 (some .int) [(0, 9, 12, 13)] 3 := ⟨m3_50, m1_0, m3_49, by decide, by decide, by decide +kernel⟩
set_option maxRecDepth 100000 in
theorem op_resolve (C : LC p s m meth c b L xs A) (hI : CI g A s (cw g ad ar fl ++ xo g ao fo ++ mw g ad2 br ml) H locs) (hl : lv_has ls 7 [(0, .ref b), (1, .ref (ad 0)), (2, .ref (ad2 0)), (3, .ref ao), (4, .int (nI i))]) (hi : i + 6 ≤ L) {S1 S2 : Type} {rm1 rm2 : Room} {mc ms : Nat} {post1 : Int32 → S1 → Prop} {w1 : S1 → va_W} {post2 : Int32 → S2 → Prop} {w2 : S2 → va_W} (hC : cWi l y_LW_resolve (.codeWith y_LW_resolve b_LW_resolve 4 (some .int) [(0, 9, 12, 13)] :: gw) rm1 g [.ref (ad 0), .int (xs (i + 1)), .ref ao] (cw g ad ar fl ++ xo g ao fo) post1 w1 mc ms) (hM : cMi l y_MD_resolve (.code y_MD_resolve b_MD_resolve 4 (some .int) :: gw) rm2 g [.ref (ad2 0), .int (xs (i + 1))] (mw g ad2 br ml) post2 w2 0 0) (hrm1 : rm1.cells = mc ∧ rm1.slots = ms) (hR1 : rm1.frames + 1 ≤ R.frames ∧ 8 + (4 + 11) + rm1.locals ≤ R.locals) (hrm2 : rm2.cells = 0 ∧ rm2.slots = 0) (hR2 : rm2.frames + 1 ≤ R.frames ∧ 8 + (4 + 11) + rm2.locals ≤ R.locals) (hR3 : 1 ≤ R.frames ∧ 20 ≤ R.locals) (hcs : cells + mc ≤ R.cells ∧ slots + ms ≤ R.slots) (hT : ∀ r1 u1, post1 r1 u1 → ∀ r2 u2, post2 r2 u2 → ∃ ar' fl' fo' br' ml', w1 u1 = cw g ad ar' fl' ++ xo g ao fo' ∧ w2 u2 = mw g ad2 br' ml' ∧ ml' 0 = r1 ∧ (r1 = 0 → fo' 0 = r2.toInt64) ∧ RelE ar' fl' br' ml') (kk : ∀ ar' fl' fo' br' ml' (H : Heap) (locs : List Loc) (ls : Array Slot), RelE ar' fl' br' ml' → CI g A s (cw g ad ar' fl' ++ xo g ao fo' ++ mw g ad2 br' ml') H locs → lv_has ls 7 [(0, .ref b), (1, .ref (ad 0)), (2, .ref (ad2 0)), (3, .ref ao), (4, .int (nI i))] → W p l e R s m #[.ref b] below meth c H locs (cells + mc) (slots + ms) Q (F0 m 865 ls [])) : W p l e R s m #[.ref b] below meth c H locs cells slots Q (F0 m 381 ls []) := by
  have M := C.1
  have hx := M.1
  have hb := M.2.1
  refine lv_aload_n hx hb d_law_381 rfl (lv_at hl 1 rfl) ?_
  refine q_arg C hI (k := 1) (lv_at hl 0 rfl) (lv_at hl 4 rfl) (by omega) d_law_382 d_law_383 d_law_385 d_law_386 d_law_387 (by decide) ?_
  refine lv_aload_n hx hb d_law_388 rfl (lv_at hl 3 rfl) ?_
  refine q_callW [.ref (ad 0), .int (xs (i + 1)), .ref ao] M C.2.1 C.2.2.1 hI hC ok_LW_resolve m3_48 rfl rfl hl.1 hrm1 hR1 (Nat.le_of_ble_eq_true rfl) hcs d_law_389 (fun r1 u1 H locs hp1 hI => ?_)
  refine lv_istore (lv' := [(5, .int r1), (0, .ref b), (1, .ref (ad 0)), (2, .ref (ad2 0)), (3, .ref ao), (4, .int (nI i))]) hx hb d_law_392 hl (by decide) rfl (fun ls hl => ?_)
  refine lv_aload_n hx hb d_law_394 rfl (lv_at hl 3 rfl) ?_
  refine q_arg C hI (k := 1) (lv_at hl 1 rfl) (lv_at hl 5 rfl) (by omega) d_law_395 d_law_396 d_law_398 d_law_399 d_law_400 (by decide) ?_
  refine q_calliB [.int (xs (i + 1))] M hI.swap hM ok_MD_resolve m5_95 m5_96 m5_97 0 rfl rfl rfl rfl hl.1 hrm2 hR2 (Nat.le_of_ble_eq_true rfl) hcs d_law_401 (fun r2 u2 H locs hp2 hI => ?_)
  obtain ⟨ar', fl', fo', br', ml', e1, e2, e3, e4, hRel⟩ := hT r1 u1 hp1 r2 u2 hp2
  rw [e1, e2] at hI
  refine lv_istore (lv' := [(6, .int r2), (5, .int r1), (0, .ref b), (1, .ref (ad 0)), (2, .ref (ad2 0)), (3, .ref ao), (4, .int (nI i))]) hx hb d_law_404 hl (by decide) rfl (fun ls hl => ?_)
  refine lv_aload_n hx hb d_law_406 rfl (lv_at hl 4 rfl) ?_
  refine q_calliB [] M hI (c_MD_thrown l g ad2 br' ml') ok_MD_thrown m5_44 m5_45 m5_46 0 rfl rfl rfl rfl hl.1 ⟨rfl, rfl⟩ hR3 (Nat.le_of_ble_eq_true rfl) hcs d_law_407 (fun r3 u3 H locs hp3 hI => ?_)
  refine lv_iload hx hb d_law_410 (lv_at hl 1 rfl) ?_
  refine lv_icmp_eq (tgt := 417) hx hb d_law_412 (by decide) (fun _ => ?_) (fun hne => absurd (hp3.trans e3) hne)
  have hdone : ∀ (ls : Array Slot), lv_has ls 7 [(6, .int r2), (5, .int r1), (0, .ref b), (1, .ref (ad 0)), (2, .ref (ad2 0)), (3, .ref ao), (4, .int (nI i))] → W p l e R s m #[.ref b] below meth c H locs (cells + mc) (slots + ms) Q (F0 m 434 ls []) := by
    intro ls hl
    refine lv_goto (tgt := 865) hx hb d_law_434 (by decide) ?_
    exact kk ar' fl' fo' br' ml' _ _ _ hRel hI.swap (lv_sub hl [2, 3, 4, 5, 6] rfl)
  refine lv_iload hx hb d_law_417 (lv_at hl 1 rfl) ?_
  refine lv_if_ne (tgt := 434) hx hb d_law_419 (by decide) (fun _ => hdone _ hl) (fun hz => ?_)
  refine lv_aload_n hx hb d_law_422 rfl (lv_at hl 5 rfl) ?_
  refine lv_iconst (v := 0) hx hb d_law_423 (by decide) ?_
  refine q_ldO M hI.swap.left d_law_424 ?_
  refine lv_iload hx hb d_law_425 (lv_at hl 0 rfl) ?_
  refine lv_i2l (v := fo' 0) hx hb d_law_427 (e4 hz).symm ?_
  refine q_lcmpE hx hb d_law_428 ?_
  refine lv_if_eq (tgt := 434) hx hb d_law_429 (by decide) (fun _ => hdone _ hl) (fun hz => absurd rfl hz)
theorem ok_LW_paragraph : OKw y_LW_paragraph b_LW_paragraph 5 (some .int) [(0, 10, 13, 15), (0, 10, 17, 36)] 4 := ⟨m4_38, m1_0, m4_37, by decide, by decide, by decide +kernel⟩
set_option maxRecDepth 100000 in
theorem op_paragraph (C : LC p s m meth c b L xs A) (hI : CI g A s (cw g ad ar fl ++ xo g ao fo ++ mw g ad2 br ml) H locs) (hl : lv_has ls 7 [(0, .ref b), (1, .ref (ad 0)), (2, .ref (ad2 0)), (3, .ref ao), (4, .int (nI i))]) (hi : i + 6 ≤ L) {S1 S2 : Type} {rm1 rm2 : Room} {mc ms : Nat} {post1 : Int32 → S1 → Prop} {w1 : S1 → va_W} {post2 : Int32 → S2 → Prop} {w2 : S2 → va_W} (hC : cWi l y_LW_paragraph (.codeWith y_LW_paragraph b_LW_paragraph 5 (some .int) [(0, 10, 13, 15), (0, 10, 17, 36)] :: gw) rm1 g [.ref (ad 0), .int (xs (i + 1)), .int (xs (i + 2)), .ref ao] (cw g ad ar fl ++ xo g ao fo) post1 w1 mc ms) (hM : cMi l y_MD_paragraph (.code y_MD_paragraph b_MD_paragraph 4 (some .int) :: gw) rm2 g [.ref (ad2 0), .int (xs (i + 1)), .int (xs (i + 2))] (mw g ad2 br ml) post2 w2 0 0) (hrm1 : rm1.cells = mc ∧ rm1.slots = ms) (hR1 : rm1.frames + 1 ≤ R.frames ∧ 8 + (5 + 11) + rm1.locals ≤ R.locals) (hrm2 : rm2.cells = 0 ∧ rm2.slots = 0) (hR2 : rm2.frames + 1 ≤ R.frames ∧ 8 + (4 + 11) + rm2.locals ≤ R.locals) (hR3 : 1 ≤ R.frames ∧ 20 ≤ R.locals) (hcs : cells + mc ≤ R.cells ∧ slots + ms ≤ R.slots) (hT : ∀ r1 u1, post1 r1 u1 → ∀ r2 u2, post2 r2 u2 → ∃ ar' fl' fo' br' ml', w1 u1 = cw g ad ar' fl' ++ xo g ao fo' ∧ w2 u2 = mw g ad2 br' ml' ∧ ml' 0 = r1 ∧ (r1 = 0 → fo' 0 = r2.toInt64) ∧ RelE ar' fl' br' ml') (kk : ∀ ar' fl' fo' br' ml' (H : Heap) (locs : List Loc) (ls : Array Slot), RelE ar' fl' br' ml' → CI g A s (cw g ad ar' fl' ++ xo g ao fo' ++ mw g ad2 br' ml') H locs → lv_has ls 7 [(0, .ref b), (1, .ref (ad 0)), (2, .ref (ad2 0)), (3, .ref ao), (4, .int (nI i))] → W p l e R s m #[.ref b] below meth c H locs (cells + mc) (slots + ms) Q (F0 m 865 ls [])) : W p l e R s m #[.ref b] below meth c H locs cells slots Q (F0 m 437 ls []) := by
  have M := C.1
  have hx := M.1
  have hb := M.2.1
  refine lv_aload_n hx hb d_law_437 rfl (lv_at hl 1 rfl) ?_
  refine q_arg C hI (k := 1) (lv_at hl 0 rfl) (lv_at hl 4 rfl) (by omega) d_law_438 d_law_439 d_law_441 d_law_442 d_law_443 (by decide) ?_
  refine q_arg C hI (k := 2) (lv_at hl 0 rfl) (lv_at hl 4 rfl) (by omega) d_law_444 d_law_445 d_law_447 d_law_448 d_law_449 (by decide) ?_
  refine lv_aload_n hx hb d_law_450 rfl (lv_at hl 3 rfl) ?_
  refine q_callW [.ref (ad 0), .int (xs (i + 1)), .int (xs (i + 2)), .ref ao] M C.2.1 C.2.2.1 hI hC ok_LW_paragraph m4_36 rfl rfl hl.1 hrm1 hR1 (Nat.le_of_ble_eq_true rfl) hcs d_law_451 (fun r1 u1 H locs hp1 hI => ?_)
  refine lv_istore (lv' := [(5, .int r1), (0, .ref b), (1, .ref (ad 0)), (2, .ref (ad2 0)), (3, .ref ao), (4, .int (nI i))]) hx hb d_law_454 hl (by decide) rfl (fun ls hl => ?_)
  refine lv_aload_n hx hb d_law_456 rfl (lv_at hl 3 rfl) ?_
  refine q_arg C hI (k := 1) (lv_at hl 1 rfl) (lv_at hl 5 rfl) (by omega) d_law_457 d_law_458 d_law_460 d_law_461 d_law_462 (by decide) ?_
  refine q_arg C hI (k := 2) (lv_at hl 1 rfl) (lv_at hl 5 rfl) (by omega) d_law_463 d_law_464 d_law_466 d_law_467 d_law_468 (by decide) ?_
  refine q_calliB [.int (xs (i + 1)), .int (xs (i + 2))] M hI.swap hM ok_MD_paragraph m5_219 m5_220 m5_221 0 rfl rfl rfl rfl hl.1 hrm2 hR2 (Nat.le_of_ble_eq_true rfl) hcs d_law_469 (fun r2 u2 H locs hp2 hI => ?_)
  obtain ⟨ar', fl', fo', br', ml', e1, e2, e3, e4, hRel⟩ := hT r1 u1 hp1 r2 u2 hp2
  rw [e1, e2] at hI
  refine lv_istore (lv' := [(6, .int r2), (5, .int r1), (0, .ref b), (1, .ref (ad 0)), (2, .ref (ad2 0)), (3, .ref ao), (4, .int (nI i))]) hx hb d_law_472 hl (by decide) rfl (fun ls hl => ?_)
  refine lv_aload_n hx hb d_law_474 rfl (lv_at hl 4 rfl) ?_
  refine q_calliB [] M hI (c_MD_thrown l g ad2 br' ml') ok_MD_thrown m5_44 m5_45 m5_46 0 rfl rfl rfl rfl hl.1 ⟨rfl, rfl⟩ hR3 (Nat.le_of_ble_eq_true rfl) hcs d_law_475 (fun r3 u3 H locs hp3 hI => ?_)
  refine lv_iload hx hb d_law_478 (lv_at hl 1 rfl) ?_
  refine lv_icmp_eq (tgt := 485) hx hb d_law_480 (by decide) (fun _ => ?_) (fun hne => absurd (hp3.trans e3) hne)
  have hdone : ∀ (ls : Array Slot), lv_has ls 7 [(6, .int r2), (5, .int r1), (0, .ref b), (1, .ref (ad 0)), (2, .ref (ad2 0)), (3, .ref ao), (4, .int (nI i))] → W p l e R s m #[.ref b] below meth c H locs (cells + mc) (slots + ms) Q (F0 m 502 ls []) := by
    intro ls hl
    refine lv_goto (tgt := 865) hx hb d_law_502 (by decide) ?_
    exact kk ar' fl' fo' br' ml' _ _ _ hRel hI.swap (lv_sub hl [2, 3, 4, 5, 6] rfl)
  refine lv_iload hx hb d_law_485 (lv_at hl 1 rfl) ?_
  refine lv_if_ne (tgt := 502) hx hb d_law_487 (by decide) (fun _ => hdone _ hl) (fun hz => ?_)
  refine lv_aload_n hx hb d_law_490 rfl (lv_at hl 5 rfl) ?_
  refine lv_iconst (v := 0) hx hb d_law_491 (by decide) ?_
  refine q_ldO M hI.swap.left d_law_492 ?_
  refine lv_iload hx hb d_law_493 (lv_at hl 0 rfl) ?_
  refine lv_i2l (v := fo' 0) hx hb d_law_495 (e4 hz).symm ?_
  refine q_lcmpE hx hb d_law_496 ?_
  refine lv_if_eq (tgt := 502) hx hb d_law_497 (by decide) (fun _ => hdone _ hl) (fun hz => absurd rfl hz)
theorem ok_LW_level : OKw y_LW_level b_LW_level 4 (some .int) [(0, 9, 12, 15), (0, 9, 15, 36)] 3 := ⟨m4_68, m1_0, m4_67, by decide, by decide, by decide +kernel⟩
set_option maxRecDepth 100000 in
theorem op_level (C : LC p s m meth c b L xs A) (hI : CI g A s (cw g ad ar fl ++ xo g ao fo ++ mw g ad2 br ml) H locs) (hl : lv_has ls 7 [(0, .ref b), (1, .ref (ad 0)), (2, .ref (ad2 0)), (3, .ref ao), (4, .int (nI i))]) (hi : i + 6 ≤ L) {S1 S2 : Type} {rm1 rm2 : Room} {mc ms : Nat} {post1 : Int32 → S1 → Prop} {w1 : S1 → va_W} {post2 : Int32 → S2 → Prop} {w2 : S2 → va_W} (hC : cWi l y_LW_level (.codeWith y_LW_level b_LW_level 4 (some .int) [(0, 9, 12, 15), (0, 9, 15, 36)] :: gw) rm1 g [.ref (ad 0), .int (xs (i + 1)), .ref ao] (cw g ad ar fl ++ xo g ao fo) post1 w1 mc ms) (hM : cMi l y_MD_level (.code y_MD_level b_MD_level 2 (some .int) :: gw) rm2 g [.ref (ad2 0), .int (xs (i + 1))] (mw g ad2 br ml) post2 w2 0 0) (hrm1 : rm1.cells = mc ∧ rm1.slots = ms) (hR1 : rm1.frames + 1 ≤ R.frames ∧ 8 + (4 + 11) + rm1.locals ≤ R.locals) (hrm2 : rm2.cells = 0 ∧ rm2.slots = 0) (hR2 : rm2.frames + 1 ≤ R.frames ∧ 8 + (2 + 11) + rm2.locals ≤ R.locals) (hR3 : 1 ≤ R.frames ∧ 20 ≤ R.locals) (hcs : cells + mc ≤ R.cells ∧ slots + ms ≤ R.slots) (hT : ∀ r1 u1, post1 r1 u1 → ∀ r2 u2, post2 r2 u2 → ∃ ar' fl' fo' br' ml', w1 u1 = cw g ad ar' fl' ++ xo g ao fo' ∧ w2 u2 = mw g ad2 br' ml' ∧ ml' 0 = r1 ∧ (r1 = 0 → fo' 0 = r2.toInt64) ∧ RelE ar' fl' br' ml') (kk : ∀ ar' fl' fo' br' ml' (H : Heap) (locs : List Loc) (ls : Array Slot), RelE ar' fl' br' ml' → CI g A s (cw g ad ar' fl' ++ xo g ao fo' ++ mw g ad2 br' ml') H locs → lv_has ls 7 [(0, .ref b), (1, .ref (ad 0)), (2, .ref (ad2 0)), (3, .ref ao), (4, .int (nI i))] → W p l e R s m #[.ref b] below meth c H locs (cells + mc) (slots + ms) Q (F0 m 865 ls [])) : W p l e R s m #[.ref b] below meth c H locs cells slots Q (F0 m 505 ls []) := by
  have M := C.1
  have hx := M.1
  have hb := M.2.1
  refine lv_aload_n hx hb d_law_505 rfl (lv_at hl 1 rfl) ?_
  refine q_arg C hI (k := 1) (lv_at hl 0 rfl) (lv_at hl 4 rfl) (by omega) d_law_506 d_law_507 d_law_509 d_law_510 d_law_511 (by decide) ?_
  refine lv_aload_n hx hb d_law_512 rfl (lv_at hl 3 rfl) ?_
  refine q_callW [.ref (ad 0), .int (xs (i + 1)), .ref ao] M C.2.1 C.2.2.1 hI hC ok_LW_level m4_66 rfl rfl hl.1 hrm1 hR1 (Nat.le_of_ble_eq_true rfl) hcs d_law_513 (fun r1 u1 H locs hp1 hI => ?_)
  refine lv_istore (lv' := [(5, .int r1), (0, .ref b), (1, .ref (ad 0)), (2, .ref (ad2 0)), (3, .ref ao), (4, .int (nI i))]) hx hb d_law_516 hl (by decide) rfl (fun ls hl => ?_)
  refine lv_aload_n hx hb d_law_518 rfl (lv_at hl 3 rfl) ?_
  refine q_arg C hI (k := 1) (lv_at hl 1 rfl) (lv_at hl 5 rfl) (by omega) d_law_519 d_law_520 d_law_522 d_law_523 d_law_524 (by decide) ?_
  refine q_calliB [.int (xs (i + 1))] M hI.swap hM ok_MD_level m5_223 m5_224 m5_225 0 rfl rfl rfl rfl hl.1 hrm2 hR2 (Nat.le_of_ble_eq_true rfl) hcs d_law_525 (fun r2 u2 H locs hp2 hI => ?_)
  obtain ⟨ar', fl', fo', br', ml', e1, e2, e3, e4, hRel⟩ := hT r1 u1 hp1 r2 u2 hp2
  rw [e1, e2] at hI
  refine lv_istore (lv' := [(6, .int r2), (5, .int r1), (0, .ref b), (1, .ref (ad 0)), (2, .ref (ad2 0)), (3, .ref ao), (4, .int (nI i))]) hx hb d_law_528 hl (by decide) rfl (fun ls hl => ?_)
  refine lv_aload_n hx hb d_law_530 rfl (lv_at hl 4 rfl) ?_
  refine q_calliB [] M hI (c_MD_thrown l g ad2 br' ml') ok_MD_thrown m5_44 m5_45 m5_46 0 rfl rfl rfl rfl hl.1 ⟨rfl, rfl⟩ hR3 (Nat.le_of_ble_eq_true rfl) hcs d_law_531 (fun r3 u3 H locs hp3 hI => ?_)
  refine lv_iload hx hb d_law_534 (lv_at hl 1 rfl) ?_
  refine lv_icmp_eq (tgt := 541) hx hb d_law_536 (by decide) (fun _ => ?_) (fun hne => absurd (hp3.trans e3) hne)
  have hdone : ∀ (ls : Array Slot), lv_has ls 7 [(6, .int r2), (5, .int r1), (0, .ref b), (1, .ref (ad 0)), (2, .ref (ad2 0)), (3, .ref ao), (4, .int (nI i))] → W p l e R s m #[.ref b] below meth c H locs (cells + mc) (slots + ms) Q (F0 m 558 ls []) := by
    intro ls hl
    refine lv_goto (tgt := 865) hx hb d_law_558 (by decide) ?_
    exact kk ar' fl' fo' br' ml' _ _ _ hRel hI.swap (lv_sub hl [2, 3, 4, 5, 6] rfl)
  refine lv_iload hx hb d_law_541 (lv_at hl 1 rfl) ?_
  refine lv_if_ne (tgt := 558) hx hb d_law_543 (by decide) (fun _ => hdone _ hl) (fun hz => ?_)
  refine lv_aload_n hx hb d_law_546 rfl (lv_at hl 5 rfl) ?_
  refine lv_iconst (v := 0) hx hb d_law_547 (by decide) ?_
  refine q_ldO M hI.swap.left d_law_548 ?_
  refine lv_iload hx hb d_law_549 (lv_at hl 0 rfl) ?_
  refine lv_i2l (v := fo' 0) hx hb d_law_551 (e4 hz).symm ?_
  refine q_lcmpE hx hb d_law_552 ?_
  refine lv_if_eq (tgt := 558) hx hb d_law_553 (by decide) (fun _ => hdone _ hl) (fun hz => absurd rfl hz)
theorem ok_LW_kind : OKw y_LW_kind b_LW_kind 4 (some .int) [(0, 9, 12, 15), (0, 9, 15, 36)] 3 := ⟨m4_80, m1_0, m4_79, by decide, by decide, by decide +kernel⟩
set_option maxRecDepth 100000 in
theorem op_kind (C : LC p s m meth c b L xs A) (hI : CI g A s (cw g ad ar fl ++ xo g ao fo ++ mw g ad2 br ml) H locs) (hl : lv_has ls 7 [(0, .ref b), (1, .ref (ad 0)), (2, .ref (ad2 0)), (3, .ref ao), (4, .int (nI i))]) (hi : i + 6 ≤ L) {S1 S2 : Type} {rm1 rm2 : Room} {mc ms : Nat} {post1 : Int32 → S1 → Prop} {w1 : S1 → va_W} {post2 : Int32 → S2 → Prop} {w2 : S2 → va_W} (hC : cWi l y_LW_kind (.codeWith y_LW_kind b_LW_kind 4 (some .int) [(0, 9, 12, 15), (0, 9, 15, 36)] :: gw) rm1 g [.ref (ad 0), .int (xs (i + 1)), .ref ao] (cw g ad ar fl ++ xo g ao fo) post1 w1 mc ms) (hM : cMi l y_MD_kind (.code y_MD_kind b_MD_kind 2 (some .int) :: gw) rm2 g [.ref (ad2 0), .int (xs (i + 1))] (mw g ad2 br ml) post2 w2 0 0) (hrm1 : rm1.cells = mc ∧ rm1.slots = ms) (hR1 : rm1.frames + 1 ≤ R.frames ∧ 8 + (4 + 11) + rm1.locals ≤ R.locals) (hrm2 : rm2.cells = 0 ∧ rm2.slots = 0) (hR2 : rm2.frames + 1 ≤ R.frames ∧ 8 + (2 + 11) + rm2.locals ≤ R.locals) (hR3 : 1 ≤ R.frames ∧ 20 ≤ R.locals) (hcs : cells + mc ≤ R.cells ∧ slots + ms ≤ R.slots) (hT : ∀ r1 u1, post1 r1 u1 → ∀ r2 u2, post2 r2 u2 → ∃ ar' fl' fo' br' ml', w1 u1 = cw g ad ar' fl' ++ xo g ao fo' ∧ w2 u2 = mw g ad2 br' ml' ∧ ml' 0 = r1 ∧ (r1 = 0 → fo' 0 = r2.toInt64) ∧ RelE ar' fl' br' ml') (kk : ∀ ar' fl' fo' br' ml' (H : Heap) (locs : List Loc) (ls : Array Slot), RelE ar' fl' br' ml' → CI g A s (cw g ad ar' fl' ++ xo g ao fo' ++ mw g ad2 br' ml') H locs → lv_has ls 7 [(0, .ref b), (1, .ref (ad 0)), (2, .ref (ad2 0)), (3, .ref ao), (4, .int (nI i))] → W p l e R s m #[.ref b] below meth c H locs (cells + mc) (slots + ms) Q (F0 m 865 ls [])) : W p l e R s m #[.ref b] below meth c H locs cells slots Q (F0 m 561 ls []) := by
  have M := C.1
  have hx := M.1
  have hb := M.2.1
  refine lv_aload_n hx hb d_law_561 rfl (lv_at hl 1 rfl) ?_
  refine q_arg C hI (k := 1) (lv_at hl 0 rfl) (lv_at hl 4 rfl) (by omega) d_law_562 d_law_563 d_law_565 d_law_566 d_law_567 (by decide) ?_
  refine lv_aload_n hx hb d_law_568 rfl (lv_at hl 3 rfl) ?_
  refine q_callW [.ref (ad 0), .int (xs (i + 1)), .ref ao] M C.2.1 C.2.2.1 hI hC ok_LW_kind m4_78 rfl rfl hl.1 hrm1 hR1 (Nat.le_of_ble_eq_true rfl) hcs d_law_569 (fun r1 u1 H locs hp1 hI => ?_)
  refine lv_istore (lv' := [(5, .int r1), (0, .ref b), (1, .ref (ad 0)), (2, .ref (ad2 0)), (3, .ref ao), (4, .int (nI i))]) hx hb d_law_572 hl (by decide) rfl (fun ls hl => ?_)
  refine lv_aload_n hx hb d_law_574 rfl (lv_at hl 3 rfl) ?_
  refine q_arg C hI (k := 1) (lv_at hl 1 rfl) (lv_at hl 5 rfl) (by omega) d_law_575 d_law_576 d_law_578 d_law_579 d_law_580 (by decide) ?_
  refine q_calliB [.int (xs (i + 1))] M hI.swap hM ok_MD_kind m5_231 m5_232 m5_233 0 rfl rfl rfl rfl hl.1 hrm2 hR2 (Nat.le_of_ble_eq_true rfl) hcs d_law_581 (fun r2 u2 H locs hp2 hI => ?_)
  obtain ⟨ar', fl', fo', br', ml', e1, e2, e3, e4, hRel⟩ := hT r1 u1 hp1 r2 u2 hp2
  rw [e1, e2] at hI
  refine lv_istore (lv' := [(6, .int r2), (5, .int r1), (0, .ref b), (1, .ref (ad 0)), (2, .ref (ad2 0)), (3, .ref ao), (4, .int (nI i))]) hx hb d_law_584 hl (by decide) rfl (fun ls hl => ?_)
  refine lv_aload_n hx hb d_law_586 rfl (lv_at hl 4 rfl) ?_
  refine q_calliB [] M hI (c_MD_thrown l g ad2 br' ml') ok_MD_thrown m5_44 m5_45 m5_46 0 rfl rfl rfl rfl hl.1 ⟨rfl, rfl⟩ hR3 (Nat.le_of_ble_eq_true rfl) hcs d_law_587 (fun r3 u3 H locs hp3 hI => ?_)
  refine lv_iload hx hb d_law_590 (lv_at hl 1 rfl) ?_
  refine lv_icmp_eq (tgt := 597) hx hb d_law_592 (by decide) (fun _ => ?_) (fun hne => absurd (hp3.trans e3) hne)
  have hdone : ∀ (ls : Array Slot), lv_has ls 7 [(6, .int r2), (5, .int r1), (0, .ref b), (1, .ref (ad 0)), (2, .ref (ad2 0)), (3, .ref ao), (4, .int (nI i))] → W p l e R s m #[.ref b] below meth c H locs (cells + mc) (slots + ms) Q (F0 m 614 ls []) := by
    intro ls hl
    refine lv_goto (tgt := 865) hx hb d_law_614 (by decide) ?_
    exact kk ar' fl' fo' br' ml' _ _ _ hRel hI.swap (lv_sub hl [2, 3, 4, 5, 6] rfl)
  refine lv_iload hx hb d_law_597 (lv_at hl 1 rfl) ?_
  refine lv_if_ne (tgt := 614) hx hb d_law_599 (by decide) (fun _ => hdone _ hl) (fun hz => ?_)
  refine lv_aload_n hx hb d_law_602 rfl (lv_at hl 5 rfl) ?_
  refine lv_iconst (v := 0) hx hb d_law_603 (by decide) ?_
  refine q_ldO M hI.swap.left d_law_604 ?_
  refine lv_iload hx hb d_law_605 (lv_at hl 0 rfl) ?_
  refine lv_i2l (v := fo' 0) hx hb d_law_607 (e4 hz).symm ?_
  refine q_lcmpE hx hb d_law_608 ?_
  refine lv_if_eq (tgt := 614) hx hb d_law_609 (by decide) (fun _ => hdone _ hl) (fun hz => absurd rfl hz)
theorem ok_LW_match : OKw y_LW_match b_LW_match 4 (some .int) [(0, 9, 12, 15), (0, 9, 15, 36)] 3 := ⟨m4_87, m1_0, m4_86, by decide, by decide, by decide +kernel⟩
set_option maxRecDepth 100000 in
theorem op_match (C : LC p s m meth c b L xs A) (hI : CI g A s (cw g ad ar fl ++ xo g ao fo ++ mw g ad2 br ml) H locs) (hl : lv_has ls 7 [(0, .ref b), (1, .ref (ad 0)), (2, .ref (ad2 0)), (3, .ref ao), (4, .int (nI i))]) (hi : i + 6 ≤ L) {S1 S2 : Type} {rm1 rm2 : Room} {mc ms : Nat} {post1 : Int32 → S1 → Prop} {w1 : S1 → va_W} {post2 : Int32 → S2 → Prop} {w2 : S2 → va_W} (hC : cWi l y_LW_match (.codeWith y_LW_match b_LW_match 4 (some .int) [(0, 9, 12, 15), (0, 9, 15, 36)] :: gw) rm1 g [.ref (ad 0), .int (xs (i + 1)), .ref ao] (cw g ad ar fl ++ xo g ao fo) post1 w1 mc ms) (hM : cMi l y_MD_match (.code y_MD_match b_MD_match 2 (some .int) :: gw) rm2 g [.ref (ad2 0), .int (xs (i + 1))] (mw g ad2 br ml) post2 w2 0 0) (hrm1 : rm1.cells = mc ∧ rm1.slots = ms) (hR1 : rm1.frames + 1 ≤ R.frames ∧ 8 + (4 + 11) + rm1.locals ≤ R.locals) (hrm2 : rm2.cells = 0 ∧ rm2.slots = 0) (hR2 : rm2.frames + 1 ≤ R.frames ∧ 8 + (2 + 11) + rm2.locals ≤ R.locals) (hR3 : 1 ≤ R.frames ∧ 20 ≤ R.locals) (hcs : cells + mc ≤ R.cells ∧ slots + ms ≤ R.slots) (hT : ∀ r1 u1, post1 r1 u1 → ∀ r2 u2, post2 r2 u2 → ∃ ar' fl' fo' br' ml', w1 u1 = cw g ad ar' fl' ++ xo g ao fo' ∧ w2 u2 = mw g ad2 br' ml' ∧ ml' 0 = r1 ∧ (r1 = 0 → fo' 0 = r2.toInt64) ∧ RelE ar' fl' br' ml') (kk : ∀ ar' fl' fo' br' ml' (H : Heap) (locs : List Loc) (ls : Array Slot), RelE ar' fl' br' ml' → CI g A s (cw g ad ar' fl' ++ xo g ao fo' ++ mw g ad2 br' ml') H locs → lv_has ls 7 [(0, .ref b), (1, .ref (ad 0)), (2, .ref (ad2 0)), (3, .ref ao), (4, .int (nI i))] → W p l e R s m #[.ref b] below meth c H locs (cells + mc) (slots + ms) Q (F0 m 865 ls [])) : W p l e R s m #[.ref b] below meth c H locs cells slots Q (F0 m 617 ls []) := by
  have M := C.1
  have hx := M.1
  have hb := M.2.1
  refine lv_aload_n hx hb d_law_617 rfl (lv_at hl 1 rfl) ?_
  refine q_arg C hI (k := 1) (lv_at hl 0 rfl) (lv_at hl 4 rfl) (by omega) d_law_618 d_law_619 d_law_621 d_law_622 d_law_623 (by decide) ?_
  refine lv_aload_n hx hb d_law_624 rfl (lv_at hl 3 rfl) ?_
  refine q_callW [.ref (ad 0), .int (xs (i + 1)), .ref ao] M C.2.1 C.2.2.1 hI hC ok_LW_match m4_85 rfl rfl hl.1 hrm1 hR1 (Nat.le_of_ble_eq_true rfl) hcs d_law_625 (fun r1 u1 H locs hp1 hI => ?_)
  refine lv_istore (lv' := [(5, .int r1), (0, .ref b), (1, .ref (ad 0)), (2, .ref (ad2 0)), (3, .ref ao), (4, .int (nI i))]) hx hb d_law_628 hl (by decide) rfl (fun ls hl => ?_)
  refine lv_aload_n hx hb d_law_630 rfl (lv_at hl 3 rfl) ?_
  refine q_arg C hI (k := 1) (lv_at hl 1 rfl) (lv_at hl 5 rfl) (by omega) d_law_631 d_law_632 d_law_634 d_law_635 d_law_636 (by decide) ?_
  refine q_calliB [.int (xs (i + 1))] M hI.swap hM ok_MD_match m5_235 m5_236 m5_237 0 rfl rfl rfl rfl hl.1 hrm2 hR2 (Nat.le_of_ble_eq_true rfl) hcs d_law_637 (fun r2 u2 H locs hp2 hI => ?_)
  obtain ⟨ar', fl', fo', br', ml', e1, e2, e3, e4, hRel⟩ := hT r1 u1 hp1 r2 u2 hp2
  rw [e1, e2] at hI
  refine lv_istore (lv' := [(6, .int r2), (5, .int r1), (0, .ref b), (1, .ref (ad 0)), (2, .ref (ad2 0)), (3, .ref ao), (4, .int (nI i))]) hx hb d_law_640 hl (by decide) rfl (fun ls hl => ?_)
  refine lv_aload_n hx hb d_law_642 rfl (lv_at hl 4 rfl) ?_
  refine q_calliB [] M hI (c_MD_thrown l g ad2 br' ml') ok_MD_thrown m5_44 m5_45 m5_46 0 rfl rfl rfl rfl hl.1 ⟨rfl, rfl⟩ hR3 (Nat.le_of_ble_eq_true rfl) hcs d_law_643 (fun r3 u3 H locs hp3 hI => ?_)
  refine lv_iload hx hb d_law_646 (lv_at hl 1 rfl) ?_
  refine lv_icmp_eq (tgt := 653) hx hb d_law_648 (by decide) (fun _ => ?_) (fun hne => absurd (hp3.trans e3) hne)
  have hdone : ∀ (ls : Array Slot), lv_has ls 7 [(6, .int r2), (5, .int r1), (0, .ref b), (1, .ref (ad 0)), (2, .ref (ad2 0)), (3, .ref ao), (4, .int (nI i))] → W p l e R s m #[.ref b] below meth c H locs (cells + mc) (slots + ms) Q (F0 m 670 ls []) := by
    intro ls hl
    refine lv_goto (tgt := 865) hx hb d_law_670 (by decide) ?_
    exact kk ar' fl' fo' br' ml' _ _ _ hRel hI.swap (lv_sub hl [2, 3, 4, 5, 6] rfl)
  refine lv_iload hx hb d_law_653 (lv_at hl 1 rfl) ?_
  refine lv_if_ne (tgt := 670) hx hb d_law_655 (by decide) (fun _ => hdone _ hl) (fun hz => ?_)
  refine lv_aload_n hx hb d_law_658 rfl (lv_at hl 5 rfl) ?_
  refine lv_iconst (v := 0) hx hb d_law_659 (by decide) ?_
  refine q_ldO M hI.swap.left d_law_660 ?_
  refine lv_iload hx hb d_law_661 (lv_at hl 0 rfl) ?_
  refine lv_i2l (v := fo' 0) hx hb d_law_663 (e4 hz).symm ?_
  refine q_lcmpE hx hb d_law_664 ?_
  refine lv_if_eq (tgt := 670) hx hb d_law_665 (by decide) (fun _ => hdone _ hl) (fun hz => absurd rfl hz)
theorem ok_LW_line : OKw y_LW_line b_LW_line 5 (some .int) [(0, 10, 13, 15), (0, 10, 17, 36), (0, 10, 21, 13)] 4 := ⟨m4_94, m1_0, m4_93, by decide, by decide, by decide +kernel⟩
set_option maxRecDepth 100000 in
theorem op_line (C : LC p s m meth c b L xs A) (hI : CI g A s (cw g ad ar fl ++ xo g ao fo ++ mw g ad2 br ml) H locs) (hl : lv_has ls 7 [(0, .ref b), (1, .ref (ad 0)), (2, .ref (ad2 0)), (3, .ref ao), (4, .int (nI i))]) (hi : i + 6 ≤ L) {S1 S2 : Type} {rm1 rm2 : Room} {mc ms : Nat} {post1 : Int32 → S1 → Prop} {w1 : S1 → va_W} {post2 : Int32 → S2 → Prop} {w2 : S2 → va_W} (hC : cWi l y_LW_line (.codeWith y_LW_line b_LW_line 5 (some .int) [(0, 10, 13, 15), (0, 10, 17, 36), (0, 10, 21, 13)] :: gw) rm1 g [.ref (ad 0), .int (xs (i + 1)), .int (xs (i + 2)), .ref ao] (cw g ad ar fl ++ xo g ao fo) post1 w1 mc ms) (hM : cMi l y_MD_line (.code y_MD_line b_MD_line 7 (some .int) :: gw) rm2 g [.ref (ad2 0), .int (xs (i + 1)), .int (xs (i + 2))] (mw g ad2 br ml) post2 w2 0 0) (hrm1 : rm1.cells = mc ∧ rm1.slots = ms) (hR1 : rm1.frames + 1 ≤ R.frames ∧ 8 + (5 + 11) + rm1.locals ≤ R.locals) (hrm2 : rm2.cells = 0 ∧ rm2.slots = 0) (hR2 : rm2.frames + 1 ≤ R.frames ∧ 8 + (7 + 11) + rm2.locals ≤ R.locals) (hR3 : 1 ≤ R.frames ∧ 20 ≤ R.locals) (hcs : cells + mc ≤ R.cells ∧ slots + ms ≤ R.slots) (hT : ∀ r1 u1, post1 r1 u1 → ∀ r2 u2, post2 r2 u2 → ∃ ar' fl' fo' br' ml', w1 u1 = cw g ad ar' fl' ++ xo g ao fo' ∧ w2 u2 = mw g ad2 br' ml' ∧ ml' 0 = r1 ∧ (r1 = 0 → fo' 0 = r2.toInt64) ∧ RelE ar' fl' br' ml') (kk : ∀ ar' fl' fo' br' ml' (H : Heap) (locs : List Loc) (ls : Array Slot), RelE ar' fl' br' ml' → CI g A s (cw g ad ar' fl' ++ xo g ao fo' ++ mw g ad2 br' ml') H locs → lv_has ls 7 [(0, .ref b), (1, .ref (ad 0)), (2, .ref (ad2 0)), (3, .ref ao), (4, .int (nI i))] → W p l e R s m #[.ref b] below meth c H locs (cells + mc) (slots + ms) Q (F0 m 865 ls [])) : W p l e R s m #[.ref b] below meth c H locs cells slots Q (F0 m 673 ls []) := by
  have M := C.1
  have hx := M.1
  have hb := M.2.1
  refine lv_aload_n hx hb d_law_673 rfl (lv_at hl 1 rfl) ?_
  refine q_arg C hI (k := 1) (lv_at hl 0 rfl) (lv_at hl 4 rfl) (by omega) d_law_674 d_law_675 d_law_677 d_law_678 d_law_679 (by decide) ?_
  refine q_arg C hI (k := 2) (lv_at hl 0 rfl) (lv_at hl 4 rfl) (by omega) d_law_680 d_law_681 d_law_683 d_law_684 d_law_685 (by decide) ?_
  refine lv_aload_n hx hb d_law_686 rfl (lv_at hl 3 rfl) ?_
  refine q_callW [.ref (ad 0), .int (xs (i + 1)), .int (xs (i + 2)), .ref ao] M C.2.1 C.2.2.1 hI hC ok_LW_line m4_92 rfl rfl hl.1 hrm1 hR1 (Nat.le_of_ble_eq_true rfl) hcs d_law_687 (fun r1 u1 H locs hp1 hI => ?_)
  refine lv_istore (lv' := [(5, .int r1), (0, .ref b), (1, .ref (ad 0)), (2, .ref (ad2 0)), (3, .ref ao), (4, .int (nI i))]) hx hb d_law_690 hl (by decide) rfl (fun ls hl => ?_)
  refine lv_aload_n hx hb d_law_692 rfl (lv_at hl 3 rfl) ?_
  refine q_arg C hI (k := 1) (lv_at hl 1 rfl) (lv_at hl 5 rfl) (by omega) d_law_693 d_law_694 d_law_696 d_law_697 d_law_698 (by decide) ?_
  refine q_arg C hI (k := 2) (lv_at hl 1 rfl) (lv_at hl 5 rfl) (by omega) d_law_699 d_law_700 d_law_702 d_law_703 d_law_704 (by decide) ?_
  refine q_calliB [.int (xs (i + 1)), .int (xs (i + 2))] M hI.swap hM ok_MD_line m5_239 m6_0 m6_1 0 rfl rfl rfl rfl hl.1 hrm2 hR2 (Nat.le_of_ble_eq_true rfl) hcs d_law_705 (fun r2 u2 H locs hp2 hI => ?_)
  obtain ⟨ar', fl', fo', br', ml', e1, e2, e3, e4, hRel⟩ := hT r1 u1 hp1 r2 u2 hp2
  rw [e1, e2] at hI
  refine lv_istore (lv' := [(6, .int r2), (5, .int r1), (0, .ref b), (1, .ref (ad 0)), (2, .ref (ad2 0)), (3, .ref ao), (4, .int (nI i))]) hx hb d_law_708 hl (by decide) rfl (fun ls hl => ?_)
  refine lv_aload_n hx hb d_law_710 rfl (lv_at hl 4 rfl) ?_
  refine q_calliB [] M hI (c_MD_thrown l g ad2 br' ml') ok_MD_thrown m5_44 m5_45 m5_46 0 rfl rfl rfl rfl hl.1 ⟨rfl, rfl⟩ hR3 (Nat.le_of_ble_eq_true rfl) hcs d_law_711 (fun r3 u3 H locs hp3 hI => ?_)
  refine lv_iload hx hb d_law_714 (lv_at hl 1 rfl) ?_
  refine lv_icmp_eq (tgt := 721) hx hb d_law_716 (by decide) (fun _ => ?_) (fun hne => absurd (hp3.trans e3) hne)
  have hdone : ∀ (ls : Array Slot), lv_has ls 7 [(6, .int r2), (5, .int r1), (0, .ref b), (1, .ref (ad 0)), (2, .ref (ad2 0)), (3, .ref ao), (4, .int (nI i))] → W p l e R s m #[.ref b] below meth c H locs (cells + mc) (slots + ms) Q (F0 m 738 ls []) := by
    intro ls hl
    refine lv_goto (tgt := 865) hx hb d_law_738 (by decide) ?_
    exact kk ar' fl' fo' br' ml' _ _ _ hRel hI.swap (lv_sub hl [2, 3, 4, 5, 6] rfl)
  refine lv_iload hx hb d_law_721 (lv_at hl 1 rfl) ?_
  refine lv_if_ne (tgt := 738) hx hb d_law_723 (by decide) (fun _ => hdone _ hl) (fun hz => ?_)
  refine lv_aload_n hx hb d_law_726 rfl (lv_at hl 5 rfl) ?_
  refine lv_iconst (v := 0) hx hb d_law_727 (by decide) ?_
  refine q_ldO M hI.swap.left d_law_728 ?_
  refine lv_iload hx hb d_law_729 (lv_at hl 0 rfl) ?_
  refine lv_i2l (v := fo' 0) hx hb d_law_731 (e4 hz).symm ?_
  refine q_lcmpE hx hb d_law_732 ?_
  refine lv_if_eq (tgt := 738) hx hb d_law_733 (by decide) (fun _ => hdone _ hl) (fun hz => absurd rfl hz)
theorem ok_LW_seen : OKw y_LW_seen b_LW_seen 5 (some .int) [(0, 10, 13, 15), (0, 10, 17, 36)] 4 := ⟨m4_142, m1_0, m4_141, by decide, by decide, by decide +kernel⟩
set_option maxRecDepth 100000 in
theorem op_seen (C : LC p s m meth c b L xs A) (hI : CI g A s (cw g ad ar fl ++ xo g ao fo ++ mw g ad2 br ml) H locs) (hl : lv_has ls 7 [(0, .ref b), (1, .ref (ad 0)), (2, .ref (ad2 0)), (3, .ref ao), (4, .int (nI i))]) (hi : i + 6 ≤ L) {S1 S2 : Type} {rm1 rm2 : Room} {mc ms : Nat} {post1 : Int32 → S1 → Prop} {w1 : S1 → va_W} {post2 : Int32 → S2 → Prop} {w2 : S2 → va_W} (hC : cWi l y_LW_seen (.codeWith y_LW_seen b_LW_seen 5 (some .int) [(0, 10, 13, 15), (0, 10, 17, 36)] :: gw) rm1 g [.ref (ad 0), .int (xs (i + 1)), .int (xs (i + 2)), .ref ao] (cw g ad ar fl ++ xo g ao fo) post1 w1 mc ms) (hM : cMi l y_MD_seen (.code y_MD_seen b_MD_seen 6 (some .int) :: gw) rm2 g [.ref (ad2 0), .int (xs (i + 1)), .int (xs (i + 2))] (mw g ad2 br ml) post2 w2 0 0) (hrm1 : rm1.cells = mc ∧ rm1.slots = ms) (hR1 : rm1.frames + 1 ≤ R.frames ∧ 8 + (5 + 11) + rm1.locals ≤ R.locals) (hrm2 : rm2.cells = 0 ∧ rm2.slots = 0) (hR2 : rm2.frames + 1 ≤ R.frames ∧ 8 + (6 + 11) + rm2.locals ≤ R.locals) (hR3 : 1 ≤ R.frames ∧ 20 ≤ R.locals) (hcs : cells + mc ≤ R.cells ∧ slots + ms ≤ R.slots) (hT : ∀ r1 u1, post1 r1 u1 → ∀ r2 u2, post2 r2 u2 → ∃ ar' fl' fo' br' ml', w1 u1 = cw g ad ar' fl' ++ xo g ao fo' ∧ w2 u2 = mw g ad2 br' ml' ∧ ml' 0 = r1 ∧ (r1 = 0 → fo' 0 = r2.toInt64) ∧ RelE ar' fl' br' ml') (kk : ∀ ar' fl' fo' br' ml' (H : Heap) (locs : List Loc) (ls : Array Slot), RelE ar' fl' br' ml' → CI g A s (cw g ad ar' fl' ++ xo g ao fo' ++ mw g ad2 br' ml') H locs → lv_has ls 7 [(0, .ref b), (1, .ref (ad 0)), (2, .ref (ad2 0)), (3, .ref ao), (4, .int (nI i))] → W p l e R s m #[.ref b] below meth c H locs (cells + mc) (slots + ms) Q (F0 m 865 ls [])) : W p l e R s m #[.ref b] below meth c H locs cells slots Q (F0 m 741 ls []) := by
  have M := C.1
  have hx := M.1
  have hb := M.2.1
  refine lv_aload_n hx hb d_law_741 rfl (lv_at hl 1 rfl) ?_
  refine q_arg C hI (k := 1) (lv_at hl 0 rfl) (lv_at hl 4 rfl) (by omega) d_law_742 d_law_743 d_law_745 d_law_746 d_law_747 (by decide) ?_
  refine q_arg C hI (k := 2) (lv_at hl 0 rfl) (lv_at hl 4 rfl) (by omega) d_law_748 d_law_749 d_law_751 d_law_752 d_law_753 (by decide) ?_
  refine lv_aload_n hx hb d_law_754 rfl (lv_at hl 3 rfl) ?_
  refine q_callW [.ref (ad 0), .int (xs (i + 1)), .int (xs (i + 2)), .ref ao] M C.2.1 C.2.2.1 hI hC ok_LW_seen m4_140 rfl rfl hl.1 hrm1 hR1 (Nat.le_of_ble_eq_true rfl) hcs d_law_755 (fun r1 u1 H locs hp1 hI => ?_)
  refine lv_istore (lv' := [(5, .int r1), (0, .ref b), (1, .ref (ad 0)), (2, .ref (ad2 0)), (3, .ref ao), (4, .int (nI i))]) hx hb d_law_758 hl (by decide) rfl (fun ls hl => ?_)
  refine lv_aload_n hx hb d_law_760 rfl (lv_at hl 3 rfl) ?_
  refine q_arg C hI (k := 1) (lv_at hl 1 rfl) (lv_at hl 5 rfl) (by omega) d_law_761 d_law_762 d_law_764 d_law_765 d_law_766 (by decide) ?_
  refine q_arg C hI (k := 2) (lv_at hl 1 rfl) (lv_at hl 5 rfl) (by omega) d_law_767 d_law_768 d_law_770 d_law_771 d_law_772 (by decide) ?_
  refine q_calliB [.int (xs (i + 1)), .int (xs (i + 2))] M hI.swap hM ok_MD_seen m6_19 m6_20 m6_21 0 rfl rfl rfl rfl hl.1 hrm2 hR2 (Nat.le_of_ble_eq_true rfl) hcs d_law_773 (fun r2 u2 H locs hp2 hI => ?_)
  obtain ⟨ar', fl', fo', br', ml', e1, e2, e3, e4, hRel⟩ := hT r1 u1 hp1 r2 u2 hp2
  rw [e1, e2] at hI
  refine lv_istore (lv' := [(6, .int r2), (5, .int r1), (0, .ref b), (1, .ref (ad 0)), (2, .ref (ad2 0)), (3, .ref ao), (4, .int (nI i))]) hx hb d_law_776 hl (by decide) rfl (fun ls hl => ?_)
  refine lv_aload_n hx hb d_law_778 rfl (lv_at hl 4 rfl) ?_
  refine q_calliB [] M hI (c_MD_thrown l g ad2 br' ml') ok_MD_thrown m5_44 m5_45 m5_46 0 rfl rfl rfl rfl hl.1 ⟨rfl, rfl⟩ hR3 (Nat.le_of_ble_eq_true rfl) hcs d_law_779 (fun r3 u3 H locs hp3 hI => ?_)
  refine lv_iload hx hb d_law_782 (lv_at hl 1 rfl) ?_
  refine lv_icmp_eq (tgt := 789) hx hb d_law_784 (by decide) (fun _ => ?_) (fun hne => absurd (hp3.trans e3) hne)
  have hdone : ∀ (ls : Array Slot), lv_has ls 7 [(6, .int r2), (5, .int r1), (0, .ref b), (1, .ref (ad 0)), (2, .ref (ad2 0)), (3, .ref ao), (4, .int (nI i))] → W p l e R s m #[.ref b] below meth c H locs (cells + mc) (slots + ms) Q (F0 m 806 ls []) := by
    intro ls hl
    refine lv_goto (tgt := 865) hx hb d_law_806 (by decide) ?_
    exact kk ar' fl' fo' br' ml' _ _ _ hRel hI.swap (lv_sub hl [2, 3, 4, 5, 6] rfl)
  refine lv_iload hx hb d_law_789 (lv_at hl 1 rfl) ?_
  refine lv_if_ne (tgt := 806) hx hb d_law_791 (by decide) (fun _ => hdone _ hl) (fun hz => ?_)
  refine lv_aload_n hx hb d_law_794 rfl (lv_at hl 5 rfl) ?_
  refine lv_iconst (v := 0) hx hb d_law_795 (by decide) ?_
  refine q_ldO M hI.swap.left d_law_796 ?_
  refine lv_iload hx hb d_law_797 (lv_at hl 0 rfl) ?_
  refine lv_i2l (v := fo' 0) hx hb d_law_799 (e4 hz).symm ?_
  refine q_lcmpE hx hb d_law_800 ?_
  refine lv_if_eq (tgt := 806) hx hb d_law_801 (by decide) (fun _ => hdone _ hl) (fun hz => absurd rfl hz)
theorem ok_LW_place : OKw y_LW_place b_LW_place 4 (some .int) [(0, 9, 12, 15), (0, 9, 15, 36)] 3 := ⟨m4_161, m1_0, m4_160, by decide, by decide, by decide +kernel⟩
set_option maxRecDepth 100000 in
theorem op_place (C : LC p s m meth c b L xs A) (hI : CI g A s (cw g ad ar fl ++ xo g ao fo ++ mw g ad2 br ml) H locs) (hl : lv_has ls 7 [(0, .ref b), (1, .ref (ad 0)), (2, .ref (ad2 0)), (3, .ref ao), (4, .int (nI i))]) (hi : i + 6 ≤ L) {S1 S2 : Type} {rm1 rm2 : Room} {mc ms : Nat} {post1 : Int32 → S1 → Prop} {w1 : S1 → va_W} {post2 : Int32 → S2 → Prop} {w2 : S2 → va_W} (hC : cWi l y_LW_place (.codeWith y_LW_place b_LW_place 4 (some .int) [(0, 9, 12, 15), (0, 9, 15, 36)] :: gw) rm1 g [.ref (ad 0), .int (xs (i + 1)), .ref ao] (cw g ad ar fl ++ xo g ao fo) post1 w1 mc ms) (hM : cMi l y_MD_place (.code y_MD_place b_MD_place 4 (some .int) :: gw) rm2 g [.ref (ad2 0), .int (xs (i + 1))] (mw g ad2 br ml) post2 w2 0 0) (hrm1 : rm1.cells = mc ∧ rm1.slots = ms) (hR1 : rm1.frames + 1 ≤ R.frames ∧ 8 + (4 + 11) + rm1.locals ≤ R.locals) (hrm2 : rm2.cells = 0 ∧ rm2.slots = 0) (hR2 : rm2.frames + 1 ≤ R.frames ∧ 8 + (4 + 11) + rm2.locals ≤ R.locals) (hR3 : 1 ≤ R.frames ∧ 20 ≤ R.locals) (hcs : cells + mc ≤ R.cells ∧ slots + ms ≤ R.slots) (hT : ∀ r1 u1, post1 r1 u1 → ∀ r2 u2, post2 r2 u2 → ∃ ar' fl' fo' br' ml', w1 u1 = cw g ad ar' fl' ++ xo g ao fo' ∧ w2 u2 = mw g ad2 br' ml' ∧ ml' 0 = r1 ∧ (r1 = 0 → fo' 0 = r2.toInt64) ∧ RelE ar' fl' br' ml') (kk : ∀ ar' fl' fo' br' ml' (H : Heap) (locs : List Loc) (ls : Array Slot), RelE ar' fl' br' ml' → CI g A s (cw g ad ar' fl' ++ xo g ao fo' ++ mw g ad2 br' ml') H locs → lv_has ls 7 [(0, .ref b), (1, .ref (ad 0)), (2, .ref (ad2 0)), (3, .ref ao), (4, .int (nI i))] → W p l e R s m #[.ref b] below meth c H locs (cells + mc) (slots + ms) Q (F0 m 865 ls [])) : W p l e R s m #[.ref b] below meth c H locs cells slots Q (F0 m 809 ls []) := by
  have M := C.1
  have hx := M.1
  have hb := M.2.1
  refine lv_aload_n hx hb d_law_809 rfl (lv_at hl 1 rfl) ?_
  refine q_arg C hI (k := 1) (lv_at hl 0 rfl) (lv_at hl 4 rfl) (by omega) d_law_810 d_law_811 d_law_813 d_law_814 d_law_815 (by decide) ?_
  refine lv_aload_n hx hb d_law_816 rfl (lv_at hl 3 rfl) ?_
  refine q_callW [.ref (ad 0), .int (xs (i + 1)), .ref ao] M C.2.1 C.2.2.1 hI hC ok_LW_place m4_159 rfl rfl hl.1 hrm1 hR1 (Nat.le_of_ble_eq_true rfl) hcs d_law_817 (fun r1 u1 H locs hp1 hI => ?_)
  refine lv_istore (lv' := [(5, .int r1), (0, .ref b), (1, .ref (ad 0)), (2, .ref (ad2 0)), (3, .ref ao), (4, .int (nI i))]) hx hb d_law_820 hl (by decide) rfl (fun ls hl => ?_)
  refine lv_aload_n hx hb d_law_822 rfl (lv_at hl 3 rfl) ?_
  refine q_arg C hI (k := 1) (lv_at hl 1 rfl) (lv_at hl 5 rfl) (by omega) d_law_823 d_law_824 d_law_826 d_law_827 d_law_828 (by decide) ?_
  refine q_calliB [.int (xs (i + 1))] M hI.swap hM ok_MD_place m6_23 m6_24 m6_25 0 rfl rfl rfl rfl hl.1 hrm2 hR2 (Nat.le_of_ble_eq_true rfl) hcs d_law_829 (fun r2 u2 H locs hp2 hI => ?_)
  obtain ⟨ar', fl', fo', br', ml', e1, e2, e3, e4, hRel⟩ := hT r1 u1 hp1 r2 u2 hp2
  rw [e1, e2] at hI
  refine lv_istore (lv' := [(6, .int r2), (5, .int r1), (0, .ref b), (1, .ref (ad 0)), (2, .ref (ad2 0)), (3, .ref ao), (4, .int (nI i))]) hx hb d_law_832 hl (by decide) rfl (fun ls hl => ?_)
  refine lv_aload_n hx hb d_law_834 rfl (lv_at hl 4 rfl) ?_
  refine q_calliB [] M hI (c_MD_thrown l g ad2 br' ml') ok_MD_thrown m5_44 m5_45 m5_46 0 rfl rfl rfl rfl hl.1 ⟨rfl, rfl⟩ hR3 (Nat.le_of_ble_eq_true rfl) hcs d_law_835 (fun r3 u3 H locs hp3 hI => ?_)
  refine lv_iload hx hb d_law_838 (lv_at hl 1 rfl) ?_
  refine lv_icmp_eq (tgt := 845) hx hb d_law_840 (by decide) (fun _ => ?_) (fun hne => absurd (hp3.trans e3) hne)
  have hdone : ∀ (ls : Array Slot), lv_has ls 7 [(6, .int r2), (5, .int r1), (0, .ref b), (1, .ref (ad 0)), (2, .ref (ad2 0)), (3, .ref ao), (4, .int (nI i))] → W p l e R s m #[.ref b] below meth c H locs (cells + mc) (slots + ms) Q (F0 m 862 ls []) := by
    intro ls hl
    refine lv_goto (tgt := 865) hx hb d_law_862 (by decide) ?_
    exact kk ar' fl' fo' br' ml' _ _ _ hRel hI.swap (lv_sub hl [2, 3, 4, 5, 6] rfl)
  refine lv_iload hx hb d_law_845 (lv_at hl 1 rfl) ?_
  refine lv_if_ne (tgt := 862) hx hb d_law_847 (by decide) (fun _ => hdone _ hl) (fun hz => ?_)
  refine lv_aload_n hx hb d_law_850 rfl (lv_at hl 5 rfl) ?_
  refine lv_iconst (v := 0) hx hb d_law_851 (by decide) ?_
  refine q_ldO M hI.swap.left d_law_852 ?_
  refine lv_iload hx hb d_law_853 (lv_at hl 0 rfl) ?_
  refine lv_i2l (v := fo' 0) hx hb d_law_855 (e4 hz).symm ?_
  refine q_lcmpE hx hb d_law_856 ?_
  refine lv_if_eq (tgt := 862) hx hb d_law_857 (by decide) (fun _ => hdone _ hl) (fun hz => absurd rfl hz)
set_option maxRecDepth 100000 in
theorem op_clear (C : LC p s m meth c b L xs A) (hI : CI g A s (cw g ad ar fl ++ xo g ao fo ++ mw g ad2 br ml) H locs) (hl : lv_has ls 7 [(0, .ref b), (1, .ref (ad 0)), (2, .ref (ad2 0)), (3, .ref ao), (4, .int (nI i))]) {cn rn bn mn : Nat} (hRel : Rel ar fl br ml cn rn bn mn) (hR : 1 ≤ R.frames ∧ 40 ≤ R.locals) (hF : rm_BL_clear_c_BL_clear_0.frames + 1 ≤ R.frames ∧ 8 + (2 + 11) + rm_BL_clear_c_BL_clear_0.locals ≤ R.locals) (hF2 : rm_MD_clear.frames + 1 ≤ R.frames ∧ 8 + (2 + 11) + rm_MD_clear.locals ≤ R.locals) (hcs : cells ≤ R.cells ∧ slots ≤ R.slots) (kk : ∀ ar' fl' fo' br' ml' (H : Heap) (locs : List Loc) (ls : Array Slot), RelE ar' fl' br' ml' → CI g A s (cw g ad ar' fl' ++ xo g ao fo' ++ mw g ad2 br' ml') H locs → lv_has ls 7 [(0, .ref b), (1, .ref (ad 0)), (2, .ref (ad2 0)), (3, .ref ao), (4, .int (nI i))] → W p l e R s m #[.ref b] below meth c H locs cells slots Q (F0 m 865 ls [])) : W p l e R s m #[.ref b] below meth c H locs cells slots Q (F0 m 368 ls []) := by
  have M := C.1
  have hx := M.1
  have hb := M.2.1
  refine lv_aload_n hx hb d_law_368 rfl (lv_at hl 1 rfl) ?_
  rw [List.append_assoc] at hI
  refine q_calliB [] M hI (c_BL_clear_0 l g ad ar fl cn hRel.1.1.1) ok_BL_clear m2_120 m2_121 m2_122 0 rfl rfl rfl rfl hl.1 ⟨rfl, rfl⟩ hF (Nat.le_of_ble_eq_true rfl) hcs d_law_369 (fun r1 u1 H locs hp1 hI => ?_)
  rw [← List.append_assoc] at hI
  refine lv_aload_n hx hb d_law_372 rfl (lv_at hl 2 rfl) ?_
  refine q_calliB [] M hI.swap (c_MD_clear l g ad2 br ml cn hRel.1.1.2.1) ok_MD_clear m5_91 m5_92 m5_93 0 rfl rfl rfl rfl hl.1 ⟨rfl, rfl⟩ hF2 (Nat.le_of_ble_eq_true rfl) hcs d_law_373 (fun r2 u2 H locs hp2 hI => ?_)
  refine lv_icmp_eq (tgt := 865) hx hb d_law_376 (by decide) (fun _ => ?_) (fun hne => absurd (hp1.trans hp2.symm) hne)
  exact kk _ _ fo _ _ _ _ _ ⟨_, _, _, _, rel_clear hRel⟩ hI.swap hl
end LWO
