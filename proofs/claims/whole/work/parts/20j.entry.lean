/-! the law's own body (written by wip/whole/gen.py) -/
theorem d_law_0 : decode code 0 = .ok (.new 8, 3) := by decide +kernel
theorem d_law_3 : decode code 3 = .ok (.dup, 1) := by decide +kernel
theorem d_law_4 : decode code 4 = .ok (.invokespecial 53, 3) := by decide +kernel
theorem d_law_7 : decode code 7 = .ok (.astore_n 1, 1) := by decide +kernel
theorem d_law_8 : decode code 8 = .ok (.new 54, 3) := by decide +kernel
theorem d_law_11 : decode code 11 = .ok (.dup, 1) := by decide +kernel
theorem d_law_12 : decode code 12 = .ok (.invokespecial 56, 3) := by decide +kernel
theorem d_law_15 : decode code 15 = .ok (.astore_n 2, 1) := by decide +kernel
theorem d_law_16 : decode code 16 = .ok (.iconst 1, 1) := by decide +kernel
theorem d_law_17 : decode code 17 = .ok (.newarray .long, 2) := by decide +kernel
theorem d_law_19 : decode code 19 = .ok (.astore_n 3, 1) := by decide +kernel
theorem d_law_20 : decode code 20 = .ok (.iconst 0, 1) := by decide +kernel
theorem d_law_21 : decode code 21 = .ok (.istore 4, 2) := by decide +kernel
theorem d_law_23 : decode code 23 = .ok (.iload 4, 2) := by decide +kernel
theorem d_law_25 : decode code 25 = .ok (.aload_n 0, 1) := by decide +kernel
theorem d_law_26 : decode code 26 = .ok (.arraylength, 1) := by decide +kernel
theorem d_law_27 : decode code 27 = .ok (.bipush 6, 2) := by decide +kernel
theorem d_law_29 : decode code 29 = .ok (.isub, 1) := by decide +kernel
theorem d_law_30 : decode code 30 = .ok (.if_icmp .gt 786, 3) := by decide +kernel
theorem d_law_33 : decode code 33 = .ok (.aload_n 0, 1) := by decide +kernel
theorem d_law_34 : decode code 34 = .ok (.iload 4, 2) := by decide +kernel
theorem d_law_36 : decode code 36 = .ok (.iaload, 1) := by decide +kernel
theorem d_law_37 : decode code 37 = .ok (.bipush 15, 2) := by decide +kernel
theorem d_law_39 : decode code 39 = .ok (.iand, 1) := by decide +kernel
theorem d_law_40 : decode code 40 = .ok (.tableswitch 770 0 12 #[68, 172, 228, 296, 340, 396, 452, 508, 592, 648, 703, 716, 757], 68) := by decide +kernel
theorem d_law_108 : decode code 108 = .ok (.aload_n 1, 1) := by decide +kernel
theorem d_law_109 : decode code 109 = .ok (.aload_n 0, 1) := by decide +kernel
theorem d_law_110 : decode code 110 = .ok (.iload 4, 2) := by decide +kernel
theorem d_law_112 : decode code 112 = .ok (.iconst 1, 1) := by decide +kernel
theorem d_law_113 : decode code 113 = .ok (.iadd, 1) := by decide +kernel
theorem d_law_114 : decode code 114 = .ok (.iaload, 1) := by decide +kernel
theorem d_law_115 : decode code 115 = .ok (.aload_n 0, 1) := by decide +kernel
theorem d_law_116 : decode code 116 = .ok (.iload 4, 2) := by decide +kernel
theorem d_law_118 : decode code 118 = .ok (.iconst 2, 1) := by decide +kernel
theorem d_law_119 : decode code 119 = .ok (.iadd, 1) := by decide +kernel
theorem d_law_120 : decode code 120 = .ok (.iaload, 1) := by decide +kernel
theorem d_law_121 : decode code 121 = .ok (.aload_n 0, 1) := by decide +kernel
theorem d_law_122 : decode code 122 = .ok (.iload 4, 2) := by decide +kernel
theorem d_law_124 : decode code 124 = .ok (.iconst 3, 1) := by decide +kernel
theorem d_law_125 : decode code 125 = .ok (.iadd, 1) := by decide +kernel
theorem d_law_126 : decode code 126 = .ok (.iaload, 1) := by decide +kernel
theorem d_law_127 : decode code 127 = .ok (.aload_n 0, 1) := by decide +kernel
theorem d_law_128 : decode code 128 = .ok (.iload 4, 2) := by decide +kernel
theorem d_law_130 : decode code 130 = .ok (.iconst 4, 1) := by decide +kernel
theorem d_law_131 : decode code 131 = .ok (.iadd, 1) := by decide +kernel
theorem d_law_132 : decode code 132 = .ok (.iaload, 1) := by decide +kernel
theorem d_law_133 : decode code 133 = .ok (.aload_n 0, 1) := by decide +kernel
theorem d_law_134 : decode code 134 = .ok (.iload 4, 2) := by decide +kernel
theorem d_law_136 : decode code 136 = .ok (.iconst 5, 1) := by decide +kernel
theorem d_law_137 : decode code 137 = .ok (.iadd, 1) := by decide +kernel
theorem d_law_138 : decode code 138 = .ok (.iaload, 1) := by decide +kernel
theorem d_law_139 : decode code 139 = .ok (.aload_n 3, 1) := by decide +kernel
theorem d_law_140 : decode code 140 = .ok (.invokestatic 57, 3) := by decide +kernel
theorem d_law_143 : decode code 143 = .ok (.istore 5, 2) := by decide +kernel
theorem d_law_145 : decode code 145 = .ok (.aload_n 2, 1) := by decide +kernel
theorem d_law_146 : decode code 146 = .ok (.aload_n 0, 1) := by decide +kernel
theorem d_law_147 : decode code 147 = .ok (.iload 4, 2) := by decide +kernel
theorem d_law_149 : decode code 149 = .ok (.iconst 1, 1) := by decide +kernel
theorem d_law_150 : decode code 150 = .ok (.iadd, 1) := by decide +kernel
theorem d_law_151 : decode code 151 = .ok (.iaload, 1) := by decide +kernel
theorem d_law_152 : decode code 152 = .ok (.aload_n 0, 1) := by decide +kernel
theorem d_law_153 : decode code 153 = .ok (.iload 4, 2) := by decide +kernel
theorem d_law_155 : decode code 155 = .ok (.iconst 2, 1) := by decide +kernel
theorem d_law_156 : decode code 156 = .ok (.iadd, 1) := by decide +kernel
theorem d_law_157 : decode code 157 = .ok (.iaload, 1) := by decide +kernel
theorem d_law_158 : decode code 158 = .ok (.aload_n 0, 1) := by decide +kernel
theorem d_law_159 : decode code 159 = .ok (.iload 4, 2) := by decide +kernel
theorem d_law_161 : decode code 161 = .ok (.iconst 3, 1) := by decide +kernel
theorem d_law_162 : decode code 162 = .ok (.iadd, 1) := by decide +kernel
theorem d_law_163 : decode code 163 = .ok (.iaload, 1) := by decide +kernel
theorem d_law_164 : decode code 164 = .ok (.aload_n 0, 1) := by decide +kernel
theorem d_law_165 : decode code 165 = .ok (.iload 4, 2) := by decide +kernel
theorem d_law_167 : decode code 167 = .ok (.iconst 4, 1) := by decide +kernel
theorem d_law_168 : decode code 168 = .ok (.iadd, 1) := by decide +kernel
theorem d_law_169 : decode code 169 = .ok (.iaload, 1) := by decide +kernel
theorem d_law_170 : decode code 170 = .ok (.aload_n 0, 1) := by decide +kernel
theorem d_law_171 : decode code 171 = .ok (.iload 4, 2) := by decide +kernel
theorem d_law_173 : decode code 173 = .ok (.iconst 5, 1) := by decide +kernel
theorem d_law_174 : decode code 174 = .ok (.iadd, 1) := by decide +kernel
theorem d_law_175 : decode code 175 = .ok (.iaload, 1) := by decide +kernel
theorem d_law_176 : decode code 176 = .ok (.invokevirtual 62, 3) := by decide +kernel
theorem d_law_179 : decode code 179 = .ok (.istore 6, 2) := by decide +kernel
theorem d_law_181 : decode code 181 = .ok (.aload_n 2, 1) := by decide +kernel
theorem d_law_182 : decode code 182 = .ok (.invokevirtual 63, 3) := by decide +kernel
theorem d_law_185 : decode code 185 = .ok (.iload 5, 2) := by decide +kernel
theorem d_law_187 : decode code 187 = .ok (.if_icmp .eq 5, 3) := by decide +kernel
theorem d_law_190 : decode code 190 = .ok (.iconst 0, 1) := by decide +kernel
theorem d_law_191 : decode code 191 = .ok (.ireturn, 1) := by decide +kernel
theorem d_law_192 : decode code 192 = .ok (.iload 5, 2) := by decide +kernel
theorem d_law_194 : decode code 194 = .ok (.ifCond .ne 15, 3) := by decide +kernel
theorem d_law_197 : decode code 197 = .ok (.aload_n 3, 1) := by decide +kernel
theorem d_law_198 : decode code 198 = .ok (.iconst 0, 1) := by decide +kernel
theorem d_law_199 : decode code 199 = .ok (.laload, 1) := by decide +kernel
theorem d_law_200 : decode code 200 = .ok (.iload 6, 2) := by decide +kernel
theorem d_law_202 : decode code 202 = .ok (.i2l, 1) := by decide +kernel
theorem d_law_203 : decode code 203 = .ok (.lcmp, 1) := by decide +kernel
theorem d_law_204 : decode code 204 = .ok (.ifCond .eq 5, 3) := by decide +kernel
theorem d_law_207 : decode code 207 = .ok (.iconst 0, 1) := by decide +kernel
theorem d_law_208 : decode code 208 = .ok (.ireturn, 1) := by decide +kernel
theorem d_law_209 : decode code 209 = .ok (.goto 601, 3) := by decide +kernel
theorem d_law_212 : decode code 212 = .ok (.aload_n 1, 1) := by decide +kernel
theorem d_law_213 : decode code 213 = .ok (.aload_n 0, 1) := by decide +kernel
theorem d_law_214 : decode code 214 = .ok (.iload 4, 2) := by decide +kernel
theorem d_law_216 : decode code 216 = .ok (.iconst 1, 1) := by decide +kernel
theorem d_law_217 : decode code 217 = .ok (.iadd, 1) := by decide +kernel
theorem d_law_218 : decode code 218 = .ok (.iaload, 1) := by decide +kernel
theorem d_law_219 : decode code 219 = .ok (.aload_n 3, 1) := by decide +kernel
theorem d_law_220 : decode code 220 = .ok (.invokestatic 66, 3) := by decide +kernel
theorem d_law_223 : decode code 223 = .ok (.istore 5, 2) := by decide +kernel
theorem d_law_225 : decode code 225 = .ok (.aload_n 2, 1) := by decide +kernel
theorem d_law_226 : decode code 226 = .ok (.aload_n 0, 1) := by decide +kernel
theorem d_law_227 : decode code 227 = .ok (.iload 4, 2) := by decide +kernel
theorem d_law_229 : decode code 229 = .ok (.iconst 1, 1) := by decide +kernel
theorem d_law_230 : decode code 230 = .ok (.iadd, 1) := by decide +kernel
theorem d_law_231 : decode code 231 = .ok (.iaload, 1) := by decide +kernel
theorem d_law_232 : decode code 232 = .ok (.invokevirtual 69, 3) := by decide +kernel
theorem d_law_235 : decode code 235 = .ok (.istore 6, 2) := by decide +kernel
theorem d_law_237 : decode code 237 = .ok (.aload_n 2, 1) := by decide +kernel
theorem d_law_238 : decode code 238 = .ok (.invokevirtual 63, 3) := by decide +kernel
theorem d_law_241 : decode code 241 = .ok (.iload 5, 2) := by decide +kernel
theorem d_law_243 : decode code 243 = .ok (.if_icmp .eq 5, 3) := by decide +kernel
theorem d_law_246 : decode code 246 = .ok (.iconst 0, 1) := by decide +kernel
theorem d_law_247 : decode code 247 = .ok (.ireturn, 1) := by decide +kernel
theorem d_law_248 : decode code 248 = .ok (.iload 5, 2) := by decide +kernel
theorem d_law_250 : decode code 250 = .ok (.ifCond .ne 15, 3) := by decide +kernel
theorem d_law_253 : decode code 253 = .ok (.aload_n 3, 1) := by decide +kernel
theorem d_law_254 : decode code 254 = .ok (.iconst 0, 1) := by decide +kernel
theorem d_law_255 : decode code 255 = .ok (.laload, 1) := by decide +kernel
theorem d_law_256 : decode code 256 = .ok (.iload 6, 2) := by decide +kernel
theorem d_law_258 : decode code 258 = .ok (.i2l, 1) := by decide +kernel
theorem d_law_259 : decode code 259 = .ok (.lcmp, 1) := by decide +kernel
theorem d_law_260 : decode code 260 = .ok (.ifCond .eq 5, 3) := by decide +kernel
theorem d_law_263 : decode code 263 = .ok (.iconst 0, 1) := by decide +kernel
theorem d_law_264 : decode code 264 = .ok (.ireturn, 1) := by decide +kernel
theorem d_law_265 : decode code 265 = .ok (.goto 545, 3) := by decide +kernel
theorem d_law_268 : decode code 268 = .ok (.aload_n 1, 1) := by decide +kernel
theorem d_law_269 : decode code 269 = .ok (.aload_n 0, 1) := by decide +kernel
theorem d_law_270 : decode code 270 = .ok (.iload 4, 2) := by decide +kernel
theorem d_law_272 : decode code 272 = .ok (.iconst 1, 1) := by decide +kernel
theorem d_law_273 : decode code 273 = .ok (.iadd, 1) := by decide +kernel
theorem d_law_274 : decode code 274 = .ok (.iaload, 1) := by decide +kernel
theorem d_law_275 : decode code 275 = .ok (.aload_n 0, 1) := by decide +kernel
theorem d_law_276 : decode code 276 = .ok (.iload 4, 2) := by decide +kernel
theorem d_law_278 : decode code 278 = .ok (.iconst 2, 1) := by decide +kernel
theorem d_law_279 : decode code 279 = .ok (.iadd, 1) := by decide +kernel
theorem d_law_280 : decode code 280 = .ok (.iaload, 1) := by decide +kernel
theorem d_law_281 : decode code 281 = .ok (.aload_n 3, 1) := by decide +kernel
theorem d_law_282 : decode code 282 = .ok (.invokestatic 70, 3) := by decide +kernel
theorem d_law_285 : decode code 285 = .ok (.istore 5, 2) := by decide +kernel
theorem d_law_287 : decode code 287 = .ok (.aload_n 2, 1) := by decide +kernel
theorem d_law_288 : decode code 288 = .ok (.aload_n 0, 1) := by decide +kernel
theorem d_law_289 : decode code 289 = .ok (.iload 4, 2) := by decide +kernel
theorem d_law_291 : decode code 291 = .ok (.iconst 1, 1) := by decide +kernel
theorem d_law_292 : decode code 292 = .ok (.iadd, 1) := by decide +kernel
theorem d_law_293 : decode code 293 = .ok (.iaload, 1) := by decide +kernel
theorem d_law_294 : decode code 294 = .ok (.aload_n 0, 1) := by decide +kernel
theorem d_law_295 : decode code 295 = .ok (.iload 4, 2) := by decide +kernel
theorem d_law_297 : decode code 297 = .ok (.iconst 2, 1) := by decide +kernel
theorem d_law_298 : decode code 298 = .ok (.iadd, 1) := by decide +kernel
theorem d_law_299 : decode code 299 = .ok (.iaload, 1) := by decide +kernel
theorem d_law_300 : decode code 300 = .ok (.invokevirtual 73, 3) := by decide +kernel
theorem d_law_303 : decode code 303 = .ok (.istore 6, 2) := by decide +kernel
theorem d_law_305 : decode code 305 = .ok (.aload_n 2, 1) := by decide +kernel
theorem d_law_306 : decode code 306 = .ok (.invokevirtual 63, 3) := by decide +kernel
theorem d_law_309 : decode code 309 = .ok (.iload 5, 2) := by decide +kernel
theorem d_law_311 : decode code 311 = .ok (.if_icmp .eq 5, 3) := by decide +kernel
theorem d_law_314 : decode code 314 = .ok (.iconst 0, 1) := by decide +kernel
theorem d_law_315 : decode code 315 = .ok (.ireturn, 1) := by decide +kernel
theorem d_law_316 : decode code 316 = .ok (.iload 5, 2) := by decide +kernel
theorem d_law_318 : decode code 318 = .ok (.ifCond .ne 15, 3) := by decide +kernel
theorem d_law_321 : decode code 321 = .ok (.aload_n 3, 1) := by decide +kernel
theorem d_law_322 : decode code 322 = .ok (.iconst 0, 1) := by decide +kernel
theorem d_law_323 : decode code 323 = .ok (.laload, 1) := by decide +kernel
theorem d_law_324 : decode code 324 = .ok (.iload 6, 2) := by decide +kernel
theorem d_law_326 : decode code 326 = .ok (.i2l, 1) := by decide +kernel
theorem d_law_327 : decode code 327 = .ok (.lcmp, 1) := by decide +kernel
theorem d_law_328 : decode code 328 = .ok (.ifCond .eq 5, 3) := by decide +kernel
theorem d_law_331 : decode code 331 = .ok (.iconst 0, 1) := by decide +kernel
theorem d_law_332 : decode code 332 = .ok (.ireturn, 1) := by decide +kernel
theorem d_law_333 : decode code 333 = .ok (.goto 477, 3) := by decide +kernel
theorem d_law_336 : decode code 336 = .ok (.aload_n 1, 1) := by decide +kernel
theorem d_law_337 : decode code 337 = .ok (.aload_n 3, 1) := by decide +kernel
theorem d_law_338 : decode code 338 = .ok (.invokestatic 74, 3) := by decide +kernel
theorem d_law_341 : decode code 341 = .ok (.istore 5, 2) := by decide +kernel
theorem d_law_343 : decode code 343 = .ok (.aload_n 2, 1) := by decide +kernel
theorem d_law_344 : decode code 344 = .ok (.invokevirtual 77, 3) := by decide +kernel
theorem d_law_347 : decode code 347 = .ok (.istore 6, 2) := by decide +kernel
theorem d_law_349 : decode code 349 = .ok (.aload_n 2, 1) := by decide +kernel
theorem d_law_350 : decode code 350 = .ok (.invokevirtual 63, 3) := by decide +kernel
theorem d_law_353 : decode code 353 = .ok (.iload 5, 2) := by decide +kernel
theorem d_law_355 : decode code 355 = .ok (.if_icmp .eq 5, 3) := by decide +kernel
theorem d_law_358 : decode code 358 = .ok (.iconst 0, 1) := by decide +kernel
theorem d_law_359 : decode code 359 = .ok (.ireturn, 1) := by decide +kernel
theorem d_law_360 : decode code 360 = .ok (.iload 5, 2) := by decide +kernel
theorem d_law_362 : decode code 362 = .ok (.ifCond .ne 15, 3) := by decide +kernel
theorem d_law_365 : decode code 365 = .ok (.aload_n 3, 1) := by decide +kernel
theorem d_law_366 : decode code 366 = .ok (.iconst 0, 1) := by decide +kernel
theorem d_law_367 : decode code 367 = .ok (.laload, 1) := by decide +kernel
theorem d_law_368 : decode code 368 = .ok (.iload 6, 2) := by decide +kernel
theorem d_law_370 : decode code 370 = .ok (.i2l, 1) := by decide +kernel
theorem d_law_371 : decode code 371 = .ok (.lcmp, 1) := by decide +kernel
theorem d_law_372 : decode code 372 = .ok (.ifCond .eq 5, 3) := by decide +kernel
theorem d_law_375 : decode code 375 = .ok (.iconst 0, 1) := by decide +kernel
theorem d_law_376 : decode code 376 = .ok (.ireturn, 1) := by decide +kernel
theorem d_law_377 : decode code 377 = .ok (.goto 433, 3) := by decide +kernel
theorem d_law_380 : decode code 380 = .ok (.aload_n 1, 1) := by decide +kernel
theorem d_law_381 : decode code 381 = .ok (.aload_n 0, 1) := by decide +kernel
theorem d_law_382 : decode code 382 = .ok (.iload 4, 2) := by decide +kernel
theorem d_law_384 : decode code 384 = .ok (.iconst 1, 1) := by decide +kernel
theorem d_law_385 : decode code 385 = .ok (.iadd, 1) := by decide +kernel
theorem d_law_386 : decode code 386 = .ok (.iaload, 1) := by decide +kernel
theorem d_law_387 : decode code 387 = .ok (.aload_n 3, 1) := by decide +kernel
theorem d_law_388 : decode code 388 = .ok (.invokestatic 78, 3) := by decide +kernel
theorem d_law_391 : decode code 391 = .ok (.istore 5, 2) := by decide +kernel
theorem d_law_393 : decode code 393 = .ok (.aload_n 2, 1) := by decide +kernel
theorem d_law_394 : decode code 394 = .ok (.aload_n 0, 1) := by decide +kernel
theorem d_law_395 : decode code 395 = .ok (.iload 4, 2) := by decide +kernel
theorem d_law_397 : decode code 397 = .ok (.iconst 1, 1) := by decide +kernel
theorem d_law_398 : decode code 398 = .ok (.iadd, 1) := by decide +kernel
theorem d_law_399 : decode code 399 = .ok (.iaload, 1) := by decide +kernel
theorem d_law_400 : decode code 400 = .ok (.invokevirtual 80, 3) := by decide +kernel
theorem d_law_403 : decode code 403 = .ok (.istore 6, 2) := by decide +kernel
theorem d_law_405 : decode code 405 = .ok (.aload_n 2, 1) := by decide +kernel
theorem d_law_406 : decode code 406 = .ok (.invokevirtual 63, 3) := by decide +kernel
theorem d_law_409 : decode code 409 = .ok (.iload 5, 2) := by decide +kernel
theorem d_law_411 : decode code 411 = .ok (.if_icmp .eq 5, 3) := by decide +kernel
theorem d_law_414 : decode code 414 = .ok (.iconst 0, 1) := by decide +kernel
theorem d_law_415 : decode code 415 = .ok (.ireturn, 1) := by decide +kernel
theorem d_law_416 : decode code 416 = .ok (.iload 5, 2) := by decide +kernel
theorem d_law_418 : decode code 418 = .ok (.ifCond .ne 15, 3) := by decide +kernel
theorem d_law_421 : decode code 421 = .ok (.aload_n 3, 1) := by decide +kernel
theorem d_law_422 : decode code 422 = .ok (.iconst 0, 1) := by decide +kernel
theorem d_law_423 : decode code 423 = .ok (.laload, 1) := by decide +kernel
theorem d_law_424 : decode code 424 = .ok (.iload 6, 2) := by decide +kernel
theorem d_law_426 : decode code 426 = .ok (.i2l, 1) := by decide +kernel
theorem d_law_427 : decode code 427 = .ok (.lcmp, 1) := by decide +kernel
theorem d_law_428 : decode code 428 = .ok (.ifCond .eq 5, 3) := by decide +kernel
theorem d_law_431 : decode code 431 = .ok (.iconst 0, 1) := by decide +kernel
theorem d_law_432 : decode code 432 = .ok (.ireturn, 1) := by decide +kernel
theorem d_law_433 : decode code 433 = .ok (.goto 377, 3) := by decide +kernel
theorem d_law_436 : decode code 436 = .ok (.aload_n 1, 1) := by decide +kernel
theorem d_law_437 : decode code 437 = .ok (.aload_n 0, 1) := by decide +kernel
theorem d_law_438 : decode code 438 = .ok (.iload 4, 2) := by decide +kernel
theorem d_law_440 : decode code 440 = .ok (.iconst 1, 1) := by decide +kernel
theorem d_law_441 : decode code 441 = .ok (.iadd, 1) := by decide +kernel
theorem d_law_442 : decode code 442 = .ok (.iaload, 1) := by decide +kernel
theorem d_law_443 : decode code 443 = .ok (.aload_n 3, 1) := by decide +kernel
theorem d_law_444 : decode code 444 = .ok (.invokestatic 81, 3) := by decide +kernel
theorem d_law_447 : decode code 447 = .ok (.istore 5, 2) := by decide +kernel
theorem d_law_449 : decode code 449 = .ok (.aload_n 2, 1) := by decide +kernel
theorem d_law_450 : decode code 450 = .ok (.aload_n 0, 1) := by decide +kernel
theorem d_law_451 : decode code 451 = .ok (.iload 4, 2) := by decide +kernel
theorem d_law_453 : decode code 453 = .ok (.iconst 1, 1) := by decide +kernel
theorem d_law_454 : decode code 454 = .ok (.iadd, 1) := by decide +kernel
theorem d_law_455 : decode code 455 = .ok (.iaload, 1) := by decide +kernel
theorem d_law_456 : decode code 456 = .ok (.invokevirtual 83, 3) := by decide +kernel
theorem d_law_459 : decode code 459 = .ok (.istore 6, 2) := by decide +kernel
theorem d_law_461 : decode code 461 = .ok (.aload_n 2, 1) := by decide +kernel
theorem d_law_462 : decode code 462 = .ok (.invokevirtual 63, 3) := by decide +kernel
theorem d_law_465 : decode code 465 = .ok (.iload 5, 2) := by decide +kernel
theorem d_law_467 : decode code 467 = .ok (.if_icmp .eq 5, 3) := by decide +kernel
theorem d_law_470 : decode code 470 = .ok (.iconst 0, 1) := by decide +kernel
theorem d_law_471 : decode code 471 = .ok (.ireturn, 1) := by decide +kernel
theorem d_law_472 : decode code 472 = .ok (.iload 5, 2) := by decide +kernel
theorem d_law_474 : decode code 474 = .ok (.ifCond .ne 15, 3) := by decide +kernel
theorem d_law_477 : decode code 477 = .ok (.aload_n 3, 1) := by decide +kernel
theorem d_law_478 : decode code 478 = .ok (.iconst 0, 1) := by decide +kernel
theorem d_law_479 : decode code 479 = .ok (.laload, 1) := by decide +kernel
theorem d_law_480 : decode code 480 = .ok (.iload 6, 2) := by decide +kernel
theorem d_law_482 : decode code 482 = .ok (.i2l, 1) := by decide +kernel
theorem d_law_483 : decode code 483 = .ok (.lcmp, 1) := by decide +kernel
theorem d_law_484 : decode code 484 = .ok (.ifCond .eq 5, 3) := by decide +kernel
theorem d_law_487 : decode code 487 = .ok (.iconst 0, 1) := by decide +kernel
theorem d_law_488 : decode code 488 = .ok (.ireturn, 1) := by decide +kernel
theorem d_law_489 : decode code 489 = .ok (.goto 321, 3) := by decide +kernel
theorem d_law_492 : decode code 492 = .ok (.aload_n 1, 1) := by decide +kernel
theorem d_law_493 : decode code 493 = .ok (.aload_n 0, 1) := by decide +kernel
theorem d_law_494 : decode code 494 = .ok (.iload 4, 2) := by decide +kernel
theorem d_law_496 : decode code 496 = .ok (.iconst 1, 1) := by decide +kernel
theorem d_law_497 : decode code 497 = .ok (.iadd, 1) := by decide +kernel
theorem d_law_498 : decode code 498 = .ok (.iaload, 1) := by decide +kernel
theorem d_law_499 : decode code 499 = .ok (.aload_n 3, 1) := by decide +kernel
theorem d_law_500 : decode code 500 = .ok (.invokestatic 84, 3) := by decide +kernel
theorem d_law_503 : decode code 503 = .ok (.istore 5, 2) := by decide +kernel
theorem d_law_505 : decode code 505 = .ok (.aload_n 2, 1) := by decide +kernel
theorem d_law_506 : decode code 506 = .ok (.aload_n 0, 1) := by decide +kernel
theorem d_law_507 : decode code 507 = .ok (.iload 4, 2) := by decide +kernel
theorem d_law_509 : decode code 509 = .ok (.iconst 1, 1) := by decide +kernel
theorem d_law_510 : decode code 510 = .ok (.iadd, 1) := by decide +kernel
theorem d_law_511 : decode code 511 = .ok (.iaload, 1) := by decide +kernel
theorem d_law_512 : decode code 512 = .ok (.invokevirtual 86, 3) := by decide +kernel
theorem d_law_515 : decode code 515 = .ok (.istore 6, 2) := by decide +kernel
theorem d_law_517 : decode code 517 = .ok (.aload_n 2, 1) := by decide +kernel
theorem d_law_518 : decode code 518 = .ok (.invokevirtual 63, 3) := by decide +kernel
theorem d_law_521 : decode code 521 = .ok (.iload 5, 2) := by decide +kernel
theorem d_law_523 : decode code 523 = .ok (.if_icmp .eq 5, 3) := by decide +kernel
theorem d_law_526 : decode code 526 = .ok (.iconst 0, 1) := by decide +kernel
theorem d_law_527 : decode code 527 = .ok (.ireturn, 1) := by decide +kernel
theorem d_law_528 : decode code 528 = .ok (.iload 5, 2) := by decide +kernel
theorem d_law_530 : decode code 530 = .ok (.ifCond .ne 15, 3) := by decide +kernel
theorem d_law_533 : decode code 533 = .ok (.aload_n 3, 1) := by decide +kernel
theorem d_law_534 : decode code 534 = .ok (.iconst 0, 1) := by decide +kernel
theorem d_law_535 : decode code 535 = .ok (.laload, 1) := by decide +kernel
theorem d_law_536 : decode code 536 = .ok (.iload 6, 2) := by decide +kernel
theorem d_law_538 : decode code 538 = .ok (.i2l, 1) := by decide +kernel
theorem d_law_539 : decode code 539 = .ok (.lcmp, 1) := by decide +kernel
theorem d_law_540 : decode code 540 = .ok (.ifCond .eq 5, 3) := by decide +kernel
theorem d_law_543 : decode code 543 = .ok (.iconst 0, 1) := by decide +kernel
theorem d_law_544 : decode code 544 = .ok (.ireturn, 1) := by decide +kernel
theorem d_law_545 : decode code 545 = .ok (.goto 265, 3) := by decide +kernel
theorem d_law_548 : decode code 548 = .ok (.aload_n 1, 1) := by decide +kernel
theorem d_law_549 : decode code 549 = .ok (.aload_n 0, 1) := by decide +kernel
theorem d_law_550 : decode code 550 = .ok (.iload 4, 2) := by decide +kernel
theorem d_law_552 : decode code 552 = .ok (.iconst 1, 1) := by decide +kernel
theorem d_law_553 : decode code 553 = .ok (.iadd, 1) := by decide +kernel
theorem d_law_554 : decode code 554 = .ok (.iaload, 1) := by decide +kernel
theorem d_law_555 : decode code 555 = .ok (.aload_n 0, 1) := by decide +kernel
theorem d_law_556 : decode code 556 = .ok (.iload 4, 2) := by decide +kernel
theorem d_law_558 : decode code 558 = .ok (.iconst 2, 1) := by decide +kernel
theorem d_law_559 : decode code 559 = .ok (.iadd, 1) := by decide +kernel
theorem d_law_560 : decode code 560 = .ok (.iaload, 1) := by decide +kernel
theorem d_law_561 : decode code 561 = .ok (.ifCond .eq 7, 3) := by decide +kernel
theorem d_law_564 : decode code 564 = .ok (.iconst 1, 1) := by decide +kernel
theorem d_law_565 : decode code 565 = .ok (.goto 4, 3) := by decide +kernel
theorem d_law_568 : decode code 568 = .ok (.iconst 0, 1) := by decide +kernel
theorem d_law_569 : decode code 569 = .ok (.aload_n 3, 1) := by decide +kernel
theorem d_law_570 : decode code 570 = .ok (.invokestatic 87, 3) := by decide +kernel
theorem d_law_573 : decode code 573 = .ok (.istore 5, 2) := by decide +kernel
theorem d_law_575 : decode code 575 = .ok (.aload_n 2, 1) := by decide +kernel
theorem d_law_576 : decode code 576 = .ok (.aload_n 0, 1) := by decide +kernel
theorem d_law_577 : decode code 577 = .ok (.iload 4, 2) := by decide +kernel
theorem d_law_579 : decode code 579 = .ok (.iconst 1, 1) := by decide +kernel
theorem d_law_580 : decode code 580 = .ok (.iadd, 1) := by decide +kernel
theorem d_law_581 : decode code 581 = .ok (.iaload, 1) := by decide +kernel
theorem d_law_582 : decode code 582 = .ok (.aload_n 0, 1) := by decide +kernel
theorem d_law_583 : decode code 583 = .ok (.iload 4, 2) := by decide +kernel
theorem d_law_585 : decode code 585 = .ok (.iconst 2, 1) := by decide +kernel
theorem d_law_586 : decode code 586 = .ok (.iadd, 1) := by decide +kernel
theorem d_law_587 : decode code 587 = .ok (.iaload, 1) := by decide +kernel
theorem d_law_588 : decode code 588 = .ok (.ifCond .eq 7, 3) := by decide +kernel
theorem d_law_591 : decode code 591 = .ok (.iconst 1, 1) := by decide +kernel
theorem d_law_592 : decode code 592 = .ok (.goto 4, 3) := by decide +kernel
theorem d_law_595 : decode code 595 = .ok (.iconst 0, 1) := by decide +kernel
theorem d_law_596 : decode code 596 = .ok (.invokevirtual 90, 3) := by decide +kernel
theorem d_law_599 : decode code 599 = .ok (.istore 6, 2) := by decide +kernel
theorem d_law_601 : decode code 601 = .ok (.aload_n 2, 1) := by decide +kernel
theorem d_law_602 : decode code 602 = .ok (.invokevirtual 63, 3) := by decide +kernel
theorem d_law_605 : decode code 605 = .ok (.iload 5, 2) := by decide +kernel
theorem d_law_607 : decode code 607 = .ok (.if_icmp .eq 5, 3) := by decide +kernel
theorem d_law_610 : decode code 610 = .ok (.iconst 0, 1) := by decide +kernel
theorem d_law_611 : decode code 611 = .ok (.ireturn, 1) := by decide +kernel
theorem d_law_612 : decode code 612 = .ok (.iload 5, 2) := by decide +kernel
theorem d_law_614 : decode code 614 = .ok (.ifCond .ne 15, 3) := by decide +kernel
theorem d_law_617 : decode code 617 = .ok (.aload_n 3, 1) := by decide +kernel
theorem d_law_618 : decode code 618 = .ok (.iconst 0, 1) := by decide +kernel
theorem d_law_619 : decode code 619 = .ok (.laload, 1) := by decide +kernel
theorem d_law_620 : decode code 620 = .ok (.iload 6, 2) := by decide +kernel
theorem d_law_622 : decode code 622 = .ok (.i2l, 1) := by decide +kernel
theorem d_law_623 : decode code 623 = .ok (.lcmp, 1) := by decide +kernel
theorem d_law_624 : decode code 624 = .ok (.ifCond .eq 5, 3) := by decide +kernel
theorem d_law_627 : decode code 627 = .ok (.iconst 0, 1) := by decide +kernel
theorem d_law_628 : decode code 628 = .ok (.ireturn, 1) := by decide +kernel
theorem d_law_629 : decode code 629 = .ok (.goto 181, 3) := by decide +kernel
theorem d_law_632 : decode code 632 = .ok (.aload_n 1, 1) := by decide +kernel
theorem d_law_633 : decode code 633 = .ok (.aload_n 0, 1) := by decide +kernel
theorem d_law_634 : decode code 634 = .ok (.iload 4, 2) := by decide +kernel
theorem d_law_636 : decode code 636 = .ok (.iconst 1, 1) := by decide +kernel
theorem d_law_637 : decode code 637 = .ok (.iadd, 1) := by decide +kernel
theorem d_law_638 : decode code 638 = .ok (.iaload, 1) := by decide +kernel
theorem d_law_639 : decode code 639 = .ok (.aload_n 3, 1) := by decide +kernel
theorem d_law_640 : decode code 640 = .ok (.invokestatic 91, 3) := by decide +kernel
theorem d_law_643 : decode code 643 = .ok (.istore 5, 2) := by decide +kernel
theorem d_law_645 : decode code 645 = .ok (.aload_n 2, 1) := by decide +kernel
theorem d_law_646 : decode code 646 = .ok (.aload_n 0, 1) := by decide +kernel
theorem d_law_647 : decode code 647 = .ok (.iload 4, 2) := by decide +kernel
theorem d_law_649 : decode code 649 = .ok (.iconst 1, 1) := by decide +kernel
theorem d_law_650 : decode code 650 = .ok (.iadd, 1) := by decide +kernel
theorem d_law_651 : decode code 651 = .ok (.iaload, 1) := by decide +kernel
theorem d_law_652 : decode code 652 = .ok (.invokevirtual 93, 3) := by decide +kernel
theorem d_law_655 : decode code 655 = .ok (.istore 6, 2) := by decide +kernel
theorem d_law_657 : decode code 657 = .ok (.aload_n 2, 1) := by decide +kernel
theorem d_law_658 : decode code 658 = .ok (.invokevirtual 63, 3) := by decide +kernel
theorem d_law_661 : decode code 661 = .ok (.iload 5, 2) := by decide +kernel
theorem d_law_663 : decode code 663 = .ok (.if_icmp .eq 5, 3) := by decide +kernel
theorem d_law_666 : decode code 666 = .ok (.iconst 0, 1) := by decide +kernel
theorem d_law_667 : decode code 667 = .ok (.ireturn, 1) := by decide +kernel
theorem d_law_668 : decode code 668 = .ok (.iload 5, 2) := by decide +kernel
theorem d_law_670 : decode code 670 = .ok (.ifCond .ne 15, 3) := by decide +kernel
theorem d_law_673 : decode code 673 = .ok (.aload_n 3, 1) := by decide +kernel
theorem d_law_674 : decode code 674 = .ok (.iconst 0, 1) := by decide +kernel
theorem d_law_675 : decode code 675 = .ok (.laload, 1) := by decide +kernel
theorem d_law_676 : decode code 676 = .ok (.iload 6, 2) := by decide +kernel
theorem d_law_678 : decode code 678 = .ok (.i2l, 1) := by decide +kernel
theorem d_law_679 : decode code 679 = .ok (.lcmp, 1) := by decide +kernel
theorem d_law_680 : decode code 680 = .ok (.ifCond .eq 5, 3) := by decide +kernel
theorem d_law_683 : decode code 683 = .ok (.iconst 0, 1) := by decide +kernel
theorem d_law_684 : decode code 684 = .ok (.ireturn, 1) := by decide +kernel
theorem d_law_685 : decode code 685 = .ok (.goto 125, 3) := by decide +kernel
theorem d_law_688 : decode code 688 = .ok (.aload_n 1, 1) := by decide +kernel
theorem d_law_689 : decode code 689 = .ok (.aload_n 0, 1) := by decide +kernel
theorem d_law_690 : decode code 690 = .ok (.iload 4, 2) := by decide +kernel
theorem d_law_692 : decode code 692 = .ok (.iconst 1, 1) := by decide +kernel
theorem d_law_693 : decode code 693 = .ok (.iadd, 1) := by decide +kernel
theorem d_law_694 : decode code 694 = .ok (.iaload, 1) := by decide +kernel
theorem d_law_695 : decode code 695 = .ok (.aload_n 3, 1) := by decide +kernel
theorem d_law_696 : decode code 696 = .ok (.invokestatic 94, 3) := by decide +kernel
theorem d_law_699 : decode code 699 = .ok (.istore 5, 2) := by decide +kernel
theorem d_law_701 : decode code 701 = .ok (.aload_n 2, 1) := by decide +kernel
theorem d_law_702 : decode code 702 = .ok (.aload_n 0, 1) := by decide +kernel
theorem d_law_703 : decode code 703 = .ok (.iload 4, 2) := by decide +kernel
theorem d_law_705 : decode code 705 = .ok (.iconst 1, 1) := by decide +kernel
theorem d_law_706 : decode code 706 = .ok (.iadd, 1) := by decide +kernel
theorem d_law_707 : decode code 707 = .ok (.iaload, 1) := by decide +kernel
theorem d_law_708 : decode code 708 = .ok (.invokevirtual 96, 3) := by decide +kernel
theorem d_law_711 : decode code 711 = .ok (.lstore 6, 2) := by decide +kernel
theorem d_law_713 : decode code 713 = .ok (.aload_n 2, 1) := by decide +kernel
theorem d_law_714 : decode code 714 = .ok (.invokevirtual 63, 3) := by decide +kernel
theorem d_law_717 : decode code 717 = .ok (.iload 5, 2) := by decide +kernel
theorem d_law_719 : decode code 719 = .ok (.if_icmp .eq 5, 3) := by decide +kernel
theorem d_law_722 : decode code 722 = .ok (.iconst 0, 1) := by decide +kernel
theorem d_law_723 : decode code 723 = .ok (.ireturn, 1) := by decide +kernel
theorem d_law_724 : decode code 724 = .ok (.iload 5, 2) := by decide +kernel
theorem d_law_726 : decode code 726 = .ok (.ifCond .ne 14, 3) := by decide +kernel
theorem d_law_729 : decode code 729 = .ok (.aload_n 3, 1) := by decide +kernel
theorem d_law_730 : decode code 730 = .ok (.iconst 0, 1) := by decide +kernel
theorem d_law_731 : decode code 731 = .ok (.laload, 1) := by decide +kernel
theorem d_law_732 : decode code 732 = .ok (.lload 6, 2) := by decide +kernel
theorem d_law_734 : decode code 734 = .ok (.lcmp, 1) := by decide +kernel
theorem d_law_735 : decode code 735 = .ok (.ifCond .eq 5, 3) := by decide +kernel
theorem d_law_738 : decode code 738 = .ok (.iconst 0, 1) := by decide +kernel
theorem d_law_739 : decode code 739 = .ok (.ireturn, 1) := by decide +kernel
theorem d_law_740 : decode code 740 = .ok (.goto 70, 3) := by decide +kernel
theorem d_law_743 : decode code 743 = .ok (.aload_n 1, 1) := by decide +kernel
theorem d_law_744 : decode code 744 = .ok (.invokevirtual 97, 3) := by decide +kernel
theorem d_law_747 : decode code 747 = .ok (.aload_n 2, 1) := by decide +kernel
theorem d_law_748 : decode code 748 = .ok (.invokevirtual 100, 3) := by decide +kernel
theorem d_law_751 : decode code 751 = .ok (.if_icmp .eq 59, 3) := by decide +kernel
theorem d_law_754 : decode code 754 = .ok (.iconst 0, 1) := by decide +kernel
theorem d_law_755 : decode code 755 = .ok (.ireturn, 1) := by decide +kernel
theorem d_law_756 : decode code 756 = .ok (.aload_n 1, 1) := by decide +kernel
theorem d_law_757 : decode code 757 = .ok (.aload_n 0, 1) := by decide +kernel
theorem d_law_758 : decode code 758 = .ok (.iload 4, 2) := by decide +kernel
theorem d_law_760 : decode code 760 = .ok (.iconst 1, 1) := by decide +kernel
theorem d_law_761 : decode code 761 = .ok (.iadd, 1) := by decide +kernel
theorem d_law_762 : decode code 762 = .ok (.iaload, 1) := by decide +kernel
theorem d_law_763 : decode code 763 = .ok (.ifCond .eq 7, 3) := by decide +kernel
theorem d_law_766 : decode code 766 = .ok (.iconst 1, 1) := by decide +kernel
theorem d_law_767 : decode code 767 = .ok (.goto 4, 3) := by decide +kernel
theorem d_law_770 : decode code 770 = .ok (.iconst 0, 1) := by decide +kernel
theorem d_law_771 : decode code 771 = .ok (.invokevirtual 101, 3) := by decide +kernel
theorem d_law_774 : decode code 774 = .ok (.aload_n 2, 1) := by decide +kernel
theorem d_law_775 : decode code 775 = .ok (.aload_n 0, 1) := by decide +kernel
theorem d_law_776 : decode code 776 = .ok (.iload 4, 2) := by decide +kernel
theorem d_law_778 : decode code 778 = .ok (.iconst 1, 1) := by decide +kernel
theorem d_law_779 : decode code 779 = .ok (.iadd, 1) := by decide +kernel
theorem d_law_780 : decode code 780 = .ok (.iaload, 1) := by decide +kernel
theorem d_law_781 : decode code 781 = .ok (.ifCond .eq 7, 3) := by decide +kernel
theorem d_law_784 : decode code 784 = .ok (.iconst 1, 1) := by decide +kernel
theorem d_law_785 : decode code 785 = .ok (.goto 4, 3) := by decide +kernel
theorem d_law_788 : decode code 788 = .ok (.iconst 0, 1) := by decide +kernel
theorem d_law_789 : decode code 789 = .ok (.invokevirtual 105, 3) := by decide +kernel
theorem d_law_792 : decode code 792 = .ok (.if_icmp .eq 18, 3) := by decide +kernel
theorem d_law_795 : decode code 795 = .ok (.iconst 0, 1) := by decide +kernel
theorem d_law_796 : decode code 796 = .ok (.ireturn, 1) := by decide +kernel
theorem d_law_797 : decode code 797 = .ok (.aload_n 1, 1) := by decide +kernel
theorem d_law_798 : decode code 798 = .ok (.invokevirtual 106, 3) := by decide +kernel
theorem d_law_801 : decode code 801 = .ok (.aload_n 2, 1) := by decide +kernel
theorem d_law_802 : decode code 802 = .ok (.invokevirtual 109, 3) := by decide +kernel
theorem d_law_805 : decode code 805 = .ok (.if_icmp .eq 5, 3) := by decide +kernel
theorem d_law_808 : decode code 808 = .ok (.iconst 0, 1) := by decide +kernel
theorem d_law_809 : decode code 809 = .ok (.ireturn, 1) := by decide +kernel
theorem d_law_810 : decode code 810 = .ok (.iinc 4 6, 3) := by decide +kernel
theorem d_law_813 : decode code 813 = .ok (.goto (-790), 3) := by decide +kernel
theorem d_law_816 : decode code 816 = .ok (.iconst 1, 1) := by decide +kernel
theorem d_law_817 : decode code 817 = .ok (.ireturn, 1) := by decide +kernel
def i_law : j_I := (R_La, code, 8, false, some .boolean, [])
def q_law0 : List (Nat × j_S) := [(0, j_nw 0 16 [.int 0, .int 0, .null, .null, .null, .null, .null, .null, .null, .null, .null, .null, .null, .null, .null, .null] 3),
  (3, j_st (f_dup) 4),
  (4, j_ci 43 0),
  (7, j_so 2 1 8),
  (8, j_nw 11 12 [.int 0, .int 0, .int 0, .int 0, .int 0, .null, .null, .null, .null, .null, .null, .null] 11),
  (11, j_st (f_dup) 12),
  (12, j_ci 98 0),
  (15, j_so 2 2 16),
  (16, j_st (f_psh (.int 1)) 17),
  (17, j_na 1 19),
  (19, j_so 2 3 20),
  (20, j_st (f_psh (.int 0)) 21),
  (21, j_so 0 4 23),
  (23, j_ld 0 4 25),
  (25, j_ld 2 0 26),
  (26, j_an 27),
  (27, j_st (f_psh (.int 6)) 29),
  (29, j_st (f_ii (fun a b => a - b)) 30),
  (30, j_br (f_ic (fun x y => decide (y < x))) 816 33),
  (33, j_ld 2 0 34),
  (34, j_ld 0 4 36),
  (36, j_al 0 37),
  (37, j_st (f_psh (.int 15)) 39),
  (39, j_st (f_ii (fun a b => a &&& b)) 40),
  (40, j_jp (f_sw 0 [108, 212, 268, 336, 380, 436, 492, 548, 632, 688, 743, 756, 797] 810)),
  (108, j_ld 2 1 109),
  (109, j_ld 2 0 110),
  (110, j_ld 0 4 112),
  (112, j_st (f_psh (.int 1)) 113),
  (113, j_st (f_ii (fun a b => a + b)) 114),
  (114, j_al 0 115),
  (115, j_ld 2 0 116),
  (116, j_ld 0 4 118),
  (118, j_st (f_psh (.int 2)) 119),
  (119, j_st (f_ii (fun a b => a + b)) 120),
  (120, j_al 0 121),
  (121, j_ld 2 0 122),
  (122, j_ld 0 4 124),
  (124, j_st (f_psh (.int 3)) 125),
  (125, j_st (f_ii (fun a b => a + b)) 126),
  (126, j_al 0 127),
  (127, j_ld 2 0 128),
  (128, j_ld 0 4 130),
  (130, j_st (f_psh (.int 4)) 131),
  (131, j_st (f_ii (fun a b => a + b)) 132),
  (132, j_al 0 133),
  (133, j_ld 2 0 134),
  (134, j_ld 0 4 136),
  (136, j_st (f_psh (.int 5)) 137),
  (137, j_st (f_ii (fun a b => a + b)) 138),
  (138, j_al 0 139),
  (139, j_ld 2 3 140),
  (140, j_cs 62 7),
  (143, j_so 0 5 145),
  (145, j_ld 2 2 146),
  (146, j_ld 2 0 147),
  (147, j_ld 0 4 149),
  (149, j_st (f_psh (.int 1)) 150),
  (150, j_st (f_ii (fun a b => a + b)) 151),
  (151, j_al 0 152)]
theorem o_law0 (G : j_G) : ∀ q ∈ q_law0, j_ok G tm i_law q.1 q.2 := j_all_mem ⟨r_new (ty := t_LT) rfl w_LT t_LT_ok k_35 k_36 k_1 (fun j hj => by revert j; decide) (by intro v hv a; revert v; simp) d_law_0,
  r_dup d_law_3,
  r_invI k_37 k_38 rfl rfl cw_LT_init (by decide) (by decide +kernel) d_law_4,
  r_astore_n d_law_7 rfl (by decide),
  r_new (ty := t_Mo) rfl w_Mo t_Mo_ok k_1245 k_1246 k_15 (fun j hj => by revert j; decide) (by intro v hv a; revert v; simp) d_law_8,
  r_dup d_law_11,
  r_invI k_1247 k_1248 rfl rfl cw_Mo_init (by decide) (by decide +kernel) d_law_12,
  r_astore_n d_law_15 rfl (by decide),
  r_iconst d_law_16 (by decide),
  r_newarray rfl rfl k_117 (by decide) (fun _ => rfl) (fun U cA h1 h2 => Option.some.inj (h2.symm.trans h1)) d_law_17,
  r_astore_n d_law_19 rfl (by decide),
  r_iconst d_law_20 (by decide),
  r_istore d_law_21 (by decide),
  r_iload d_law_23,
  r_aload_n d_law_25 rfl,
  r_alen d_law_26,
  r_bipush d_law_27 (by decide),
  r_isub d_law_29,
  r_ic_gt d_law_30 (by decide),
  r_aload_n d_law_33 rfl,
  r_iload d_law_34,
  r_iaload d_law_36,
  r_bipush d_law_37 (by decide),
  r_iand d_law_39,
  r_tableswitch d_law_40 (by decide) (by decide) (by decide),
  r_aload_n d_law_108 rfl,
  r_aload_n d_law_109 rfl,
  r_iload d_law_110,
  r_iconst d_law_112 (by decide),
  r_iadd d_law_113,
  r_iaload d_law_114,
  r_aload_n d_law_115 rfl,
  r_iload d_law_116,
  r_iconst d_law_118 (by decide),
  r_iadd d_law_119,
  r_iaload d_law_120,
  r_aload_n d_law_121 rfl,
  r_iload d_law_122,
  r_iconst d_law_124 (by decide),
  r_iadd d_law_125,
  r_iaload d_law_126,
  r_aload_n d_law_127 rfl,
  r_iload d_law_128,
  r_iconst d_law_130 (by decide),
  r_iadd d_law_131,
  r_iaload d_law_132,
  r_aload_n d_law_133 rfl,
  r_iload d_law_134,
  r_iconst d_law_136 (by decide),
  r_iadd d_law_137,
  r_iaload d_law_138,
  r_aload_n d_law_139 rfl,
  r_invS k_1041 k_1042 cw_La_feed (by decide) (by decide +kernel) d_law_140,
  r_istore d_law_143 (by decide),
  r_aload_n d_law_145 rfl,
  r_aload_n d_law_146 rfl,
  r_iload d_law_147,
  r_iconst d_law_149 (by decide),
  r_iadd d_law_150,
  r_iaload d_law_151, trivial⟩
def q_law1 : List (Nat × j_S) := [(152, j_ld 2 0 153),
  (153, j_ld 0 4 155),
  (155, j_st (f_psh (.int 2)) 156),
  (156, j_st (f_ii (fun a b => a + b)) 157),
  (157, j_al 0 158),
  (158, j_ld 2 0 159),
  (159, j_ld 0 4 161),
  (161, j_st (f_psh (.int 3)) 162),
  (162, j_st (f_ii (fun a b => a + b)) 163),
  (163, j_al 0 164),
  (164, j_ld 2 0 165),
  (165, j_ld 0 4 167),
  (167, j_st (f_psh (.int 4)) 168),
  (168, j_st (f_ii (fun a b => a + b)) 169),
  (169, j_al 0 170),
  (170, j_ld 2 0 171),
  (171, j_ld 0 4 173),
  (173, j_st (f_psh (.int 5)) 174),
  (174, j_st (f_ii (fun a b => a + b)) 175),
  (175, j_al 0 176),
  (176, j_cv [(11, 95)] 5),
  (179, j_so 0 6 181),
  (181, j_ld 2 2 182),
  (182, j_cv [(11, 107)] 0),
  (185, j_ld 0 5 187),
  (187, j_br (f_ic (fun x y => decide (x = y))) 192 190),
  (190, j_st (f_psh (.int 0)) 191),
  (191, j_rt 3),
  (192, j_ld 0 5 194),
  (194, j_br (f_if (fun x => decide (¬ x = 0))) 209 197),
  (197, j_ld 2 3 198),
  (198, j_st (f_psh (.int 0)) 199),
  (199, j_al 1 200),
  (200, j_ld 0 6 202),
  (202, j_st (f_i2l) 203),
  (203, j_st (f_cmp) 204),
  (204, j_br (f_if (fun x => decide (x = 0))) 209 207),
  (207, j_st (f_psh (.int 0)) 208),
  (208, j_rt 3),
  (209, j_st f_id 810),
  (212, j_ld 2 1 213),
  (213, j_ld 2 0 214),
  (214, j_ld 0 4 216),
  (216, j_st (f_psh (.int 1)) 217),
  (217, j_st (f_ii (fun a b => a + b)) 218),
  (218, j_al 0 219),
  (219, j_ld 2 3 220),
  (220, j_cs 61 3),
  (223, j_so 0 5 225),
  (225, j_ld 2 2 226),
  (226, j_ld 2 0 227),
  (227, j_ld 0 4 229),
  (229, j_st (f_psh (.int 1)) 230),
  (230, j_st (f_ii (fun a b => a + b)) 231),
  (231, j_al 0 232),
  (232, j_cv [(11, 92)] 1),
  (235, j_so 0 6 237),
  (237, j_ld 2 2 238),
  (238, j_cv [(11, 107)] 0),
  (241, j_ld 0 5 243)]
theorem o_law1 (G : j_G) : ∀ q ∈ q_law1, j_ok G tm i_law q.1 q.2 := j_all_mem ⟨r_aload_n d_law_152 rfl,
  r_iload d_law_153,
  r_iconst d_law_155 (by decide),
  r_iadd d_law_156,
  r_iaload d_law_157,
  r_aload_n d_law_158 rfl,
  r_iload d_law_159,
  r_iconst d_law_161 (by decide),
  r_iadd d_law_162,
  r_iaload d_law_163,
  r_aload_n d_law_164 rfl,
  r_iload d_law_165,
  r_iconst d_law_167 (by decide),
  r_iadd d_law_168,
  r_iaload d_law_169,
  r_aload_n d_law_170 rfl,
  r_iload d_law_171,
  r_iconst d_law_173 (by decide),
  r_iadd d_law_174,
  r_iaload d_law_175,
  r_invV (j_all_mem ⟨⟨⟨_, _, _, rfl, k_1293, k_1294, k_1295⟩, cw_Mo_feed, by decide, by decide +kernel⟩, trivial⟩) d_law_176,
  r_istore d_law_179 (by decide),
  r_aload_n d_law_181 rfl,
  r_invV (j_all_mem ⟨⟨⟨_, _, _, rfl, k_1289, k_1290, k_1291⟩, cw_Mo_thrown, by decide, by decide +kernel⟩, trivial⟩) d_law_182,
  r_iload d_law_185,
  r_ic_eq d_law_187 (by decide),
  r_iconst d_law_190 (by decide),
  r_zreturn d_law_191 rfl,
  r_iload d_law_192,
  r_if_ne d_law_194 (by decide),
  r_aload_n d_law_197 rfl,
  r_iconst d_law_198 (by decide),
  r_laload d_law_199,
  r_iload d_law_200,
  r_i2l d_law_202,
  r_lcmp d_law_203,
  r_if_eq d_law_204 (by decide),
  r_iconst d_law_207 (by decide),
  r_zreturn d_law_208 rfl,
  r_goto d_law_209 (by decide),
  r_aload_n d_law_212 rfl,
  r_aload_n d_law_213 rfl,
  r_iload d_law_214,
  r_iconst d_law_216 (by decide),
  r_iadd d_law_217,
  r_iaload d_law_218,
  r_aload_n d_law_219 rfl,
  r_invS k_1068 k_1069 cw_La_end (by decide) (by decide +kernel) d_law_220,
  r_istore d_law_223 (by decide),
  r_aload_n d_law_225 rfl,
  r_aload_n d_law_226 rfl,
  r_iload d_law_227,
  r_iconst d_law_229 (by decide),
  r_iadd d_law_230,
  r_iaload d_law_231,
  r_invV (j_all_mem ⟨⟨⟨_, _, _, rfl, k_1301, k_1302, k_1303⟩, cw_Mo_end, by decide, by decide +kernel⟩, trivial⟩) d_law_232,
  r_istore d_law_235 (by decide),
  r_aload_n d_law_237 rfl,
  r_invV (j_all_mem ⟨⟨⟨_, _, _, rfl, k_1289, k_1290, k_1291⟩, cw_Mo_thrown, by decide, by decide +kernel⟩, trivial⟩) d_law_238,
  r_iload d_law_241, trivial⟩
def q_law2 : List (Nat × j_S) := [(243, j_br (f_ic (fun x y => decide (x = y))) 248 246),
  (246, j_st (f_psh (.int 0)) 247),
  (247, j_rt 3),
  (248, j_ld 0 5 250),
  (250, j_br (f_if (fun x => decide (¬ x = 0))) 265 253),
  (253, j_ld 2 3 254),
  (254, j_st (f_psh (.int 0)) 255),
  (255, j_al 1 256),
  (256, j_ld 0 6 258),
  (258, j_st (f_i2l) 259),
  (259, j_st (f_cmp) 260),
  (260, j_br (f_if (fun x => decide (x = 0))) 265 263),
  (263, j_st (f_psh (.int 0)) 264),
  (264, j_rt 3),
  (265, j_st f_id 810),
  (268, j_ld 2 1 269),
  (269, j_ld 2 0 270),
  (270, j_ld 0 4 272),
  (272, j_st (f_psh (.int 1)) 273),
  (273, j_st (f_ii (fun a b => a + b)) 274),
  (274, j_al 0 275),
  (275, j_ld 2 0 276),
  (276, j_ld 0 4 278),
  (278, j_st (f_psh (.int 2)) 279),
  (279, j_st (f_ii (fun a b => a + b)) 280),
  (280, j_al 0 281),
  (281, j_ld 2 3 282),
  (282, j_cs 66 4),
  (285, j_so 0 5 287),
  (287, j_ld 2 2 288),
  (288, j_ld 2 0 289),
  (289, j_ld 0 4 291),
  (291, j_st (f_psh (.int 1)) 292),
  (292, j_st (f_ii (fun a b => a + b)) 293),
  (293, j_al 0 294),
  (294, j_ld 2 0 295),
  (295, j_ld 0 4 297),
  (297, j_st (f_psh (.int 2)) 298),
  (298, j_st (f_ii (fun a b => a + b)) 299),
  (299, j_al 0 300),
  (300, j_cv [(11, 104)] 2),
  (303, j_so 0 6 305),
  (305, j_ld 2 2 306),
  (306, j_cv [(11, 107)] 0),
  (309, j_ld 0 5 311),
  (311, j_br (f_ic (fun x y => decide (x = y))) 316 314),
  (314, j_st (f_psh (.int 0)) 315),
  (315, j_rt 3),
  (316, j_ld 0 5 318),
  (318, j_br (f_if (fun x => decide (¬ x = 0))) 333 321),
  (321, j_ld 2 3 322),
  (322, j_st (f_psh (.int 0)) 323),
  (323, j_al 1 324),
  (324, j_ld 0 6 326),
  (326, j_st (f_i2l) 327),
  (327, j_st (f_cmp) 328),
  (328, j_br (f_if (fun x => decide (x = 0))) 333 331),
  (331, j_st (f_psh (.int 0)) 332),
  (332, j_rt 3),
  (333, j_st f_id 810)]
theorem o_law2 (G : j_G) : ∀ q ∈ q_law2, j_ok G tm i_law q.1 q.2 := j_all_mem ⟨r_ic_eq d_law_243 (by decide),
  r_iconst d_law_246 (by decide),
  r_zreturn d_law_247 rfl,
  r_iload d_law_248,
  r_if_ne d_law_250 (by decide),
  r_aload_n d_law_253 rfl,
  r_iconst d_law_254 (by decide),
  r_laload d_law_255,
  r_iload d_law_256,
  r_i2l d_law_258,
  r_lcmp d_law_259,
  r_if_eq d_law_260 (by decide),
  r_iconst d_law_263 (by decide),
  r_zreturn d_law_264 rfl,
  r_goto d_law_265 (by decide),
  r_aload_n d_law_268 rfl,
  r_aload_n d_law_269 rfl,
  r_iload d_law_270,
  r_iconst d_law_272 (by decide),
  r_iadd d_law_273,
  r_iaload d_law_274,
  r_aload_n d_law_275 rfl,
  r_iload d_law_276,
  r_iconst d_law_278 (by decide),
  r_iadd d_law_279,
  r_iaload d_law_280,
  r_aload_n d_law_281 rfl,
  r_invS k_1085 k_1086 cw_La_put (by decide) (by decide +kernel) d_law_282,
  r_istore d_law_285 (by decide),
  r_aload_n d_law_287 rfl,
  r_aload_n d_law_288 rfl,
  r_iload d_law_289,
  r_iconst d_law_291 (by decide),
  r_iadd d_law_292,
  r_iaload d_law_293,
  r_aload_n d_law_294 rfl,
  r_iload d_law_295,
  r_iconst d_law_297 (by decide),
  r_iadd d_law_298,
  r_iaload d_law_299,
  r_invV (j_all_mem ⟨⟨⟨_, _, _, rfl, k_1305, k_1306, k_1307⟩, cw_Mo_put, by decide, by decide +kernel⟩, trivial⟩) d_law_300,
  r_istore d_law_303 (by decide),
  r_aload_n d_law_305 rfl,
  r_invV (j_all_mem ⟨⟨⟨_, _, _, rfl, k_1289, k_1290, k_1291⟩, cw_Mo_thrown, by decide, by decide +kernel⟩, trivial⟩) d_law_306,
  r_iload d_law_309,
  r_ic_eq d_law_311 (by decide),
  r_iconst d_law_314 (by decide),
  r_zreturn d_law_315 rfl,
  r_iload d_law_316,
  r_if_ne d_law_318 (by decide),
  r_aload_n d_law_321 rfl,
  r_iconst d_law_322 (by decide),
  r_laload d_law_323,
  r_iload d_law_324,
  r_i2l d_law_326,
  r_lcmp d_law_327,
  r_if_eq d_law_328 (by decide),
  r_iconst d_law_331 (by decide),
  r_zreturn d_law_332 rfl,
  r_goto d_law_333 (by decide), trivial⟩
def q_law3 : List (Nat × j_S) := [(336, j_ld 2 1 337),
  (337, j_ld 2 3 338),
  (338, j_cs 65 2),
  (341, j_so 0 5 343),
  (343, j_ld 2 2 344),
  (344, j_cv [(11, 102)] 0),
  (347, j_so 0 6 349),
  (349, j_ld 2 2 350),
  (350, j_cv [(11, 107)] 0),
  (353, j_ld 0 5 355),
  (355, j_br (f_ic (fun x y => decide (x = y))) 360 358),
  (358, j_st (f_psh (.int 0)) 359),
  (359, j_rt 3),
  (360, j_ld 0 5 362),
  (362, j_br (f_if (fun x => decide (¬ x = 0))) 377 365),
  (365, j_ld 2 3 366),
  (366, j_st (f_psh (.int 0)) 367),
  (367, j_al 1 368),
  (368, j_ld 0 6 370),
  (370, j_st (f_i2l) 371),
  (371, j_st (f_cmp) 372),
  (372, j_br (f_if (fun x => decide (x = 0))) 377 375),
  (375, j_st (f_psh (.int 0)) 376),
  (376, j_rt 3),
  (377, j_st f_id 810),
  (380, j_ld 2 1 381),
  (381, j_ld 2 0 382),
  (382, j_ld 0 4 384),
  (384, j_st (f_psh (.int 1)) 385),
  (385, j_st (f_ii (fun a b => a + b)) 386),
  (386, j_al 0 387),
  (387, j_ld 2 3 388),
  (388, j_cs 64 3),
  (391, j_so 0 5 393),
  (393, j_ld 2 2 394),
  (394, j_ld 2 0 395),
  (395, j_ld 0 4 397),
  (397, j_st (f_psh (.int 1)) 398),
  (398, j_st (f_ii (fun a b => a + b)) 399),
  (399, j_al 0 400),
  (400, j_cv [(11, 101)] 1),
  (403, j_so 0 6 405),
  (405, j_ld 2 2 406),
  (406, j_cv [(11, 107)] 0),
  (409, j_ld 0 5 411),
  (411, j_br (f_ic (fun x y => decide (x = y))) 416 414),
  (414, j_st (f_psh (.int 0)) 415),
  (415, j_rt 3),
  (416, j_ld 0 5 418),
  (418, j_br (f_if (fun x => decide (¬ x = 0))) 433 421),
  (421, j_ld 2 3 422),
  (422, j_st (f_psh (.int 0)) 423),
  (423, j_al 1 424),
  (424, j_ld 0 6 426),
  (426, j_st (f_i2l) 427),
  (427, j_st (f_cmp) 428),
  (428, j_br (f_if (fun x => decide (x = 0))) 433 431),
  (431, j_st (f_psh (.int 0)) 432),
  (432, j_rt 3),
  (433, j_st f_id 810)]
theorem o_law3 (G : j_G) : ∀ q ∈ q_law3, j_ok G tm i_law q.1 q.2 := j_all_mem ⟨r_aload_n d_law_336 rfl,
  r_aload_n d_law_337 rfl,
  r_invS k_1138 k_1139 cw_La_out (by decide) (by decide +kernel) d_law_338,
  r_istore d_law_341 (by decide),
  r_aload_n d_law_343 rfl,
  r_invV (j_all_mem ⟨⟨⟨_, _, _, rfl, k_1321, k_1322, k_1323⟩, cw_Mo_out, by decide, by decide +kernel⟩, trivial⟩) d_law_344,
  r_istore d_law_347 (by decide),
  r_aload_n d_law_349 rfl,
  r_invV (j_all_mem ⟨⟨⟨_, _, _, rfl, k_1289, k_1290, k_1291⟩, cw_Mo_thrown, by decide, by decide +kernel⟩, trivial⟩) d_law_350,
  r_iload d_law_353,
  r_ic_eq d_law_355 (by decide),
  r_iconst d_law_358 (by decide),
  r_zreturn d_law_359 rfl,
  r_iload d_law_360,
  r_if_ne d_law_362 (by decide),
  r_aload_n d_law_365 rfl,
  r_iconst d_law_366 (by decide),
  r_laload d_law_367,
  r_iload d_law_368,
  r_i2l d_law_370,
  r_lcmp d_law_371,
  r_if_eq d_law_372 (by decide),
  r_iconst d_law_375 (by decide),
  r_zreturn d_law_376 rfl,
  r_goto d_law_377 (by decide),
  r_aload_n d_law_380 rfl,
  r_aload_n d_law_381 rfl,
  r_iload d_law_382,
  r_iconst d_law_384 (by decide),
  r_iadd d_law_385,
  r_iaload d_law_386,
  r_aload_n d_law_387 rfl,
  r_invS k_1145 k_1146 cw_La_open (by decide) (by decide +kernel) d_law_388,
  r_istore d_law_391 (by decide),
  r_aload_n d_law_393 rfl,
  r_aload_n d_law_394 rfl,
  r_iload d_law_395,
  r_iconst d_law_397 (by decide),
  r_iadd d_law_398,
  r_iaload d_law_399,
  r_invV (j_all_mem ⟨⟨⟨_, _, _, rfl, k_1325, k_1326, k_1327⟩, cw_Mo_open, by decide, by decide +kernel⟩, trivial⟩) d_law_400,
  r_istore d_law_403 (by decide),
  r_aload_n d_law_405 rfl,
  r_invV (j_all_mem ⟨⟨⟨_, _, _, rfl, k_1289, k_1290, k_1291⟩, cw_Mo_thrown, by decide, by decide +kernel⟩, trivial⟩) d_law_406,
  r_iload d_law_409,
  r_ic_eq d_law_411 (by decide),
  r_iconst d_law_414 (by decide),
  r_zreturn d_law_415 rfl,
  r_iload d_law_416,
  r_if_ne d_law_418 (by decide),
  r_aload_n d_law_421 rfl,
  r_iconst d_law_422 (by decide),
  r_laload d_law_423,
  r_iload d_law_424,
  r_i2l d_law_426,
  r_lcmp d_law_427,
  r_if_eq d_law_428 (by decide),
  r_iconst d_law_431 (by decide),
  r_zreturn d_law_432 rfl,
  r_goto d_law_433 (by decide), trivial⟩
def q_law4 : List (Nat × j_S) := [(436, j_ld 2 1 437),
  (437, j_ld 2 0 438),
  (438, j_ld 0 4 440),
  (440, j_st (f_psh (.int 1)) 441),
  (441, j_st (f_ii (fun a b => a + b)) 442),
  (442, j_al 0 443),
  (443, j_ld 2 3 444),
  (444, j_cs 59 3),
  (447, j_so 0 5 449),
  (449, j_ld 2 2 450),
  (450, j_ld 2 0 451),
  (451, j_ld 0 4 453),
  (453, j_st (f_psh (.int 1)) 454),
  (454, j_st (f_ii (fun a b => a + b)) 455),
  (455, j_al 0 456),
  (456, j_cv [(11, 88)] 1),
  (459, j_so 0 6 461),
  (461, j_ld 2 2 462),
  (462, j_cv [(11, 107)] 0),
  (465, j_ld 0 5 467),
  (467, j_br (f_ic (fun x y => decide (x = y))) 472 470),
  (470, j_st (f_psh (.int 0)) 471),
  (471, j_rt 3),
  (472, j_ld 0 5 474),
  (474, j_br (f_if (fun x => decide (¬ x = 0))) 489 477),
  (477, j_ld 2 3 478),
  (478, j_st (f_psh (.int 0)) 479),
  (479, j_al 1 480),
  (480, j_ld 0 6 482),
  (482, j_st (f_i2l) 483),
  (483, j_st (f_cmp) 484),
  (484, j_br (f_if (fun x => decide (x = 0))) 489 487),
  (487, j_st (f_psh (.int 0)) 488),
  (488, j_rt 3),
  (489, j_st f_id 810),
  (492, j_ld 2 1 493),
  (493, j_ld 2 0 494),
  (494, j_ld 0 4 496),
  (496, j_st (f_psh (.int 1)) 497),
  (497, j_st (f_ii (fun a b => a + b)) 498),
  (498, j_al 0 499),
  (499, j_ld 2 3 500),
  (500, j_cs 63 3),
  (503, j_so 0 5 505),
  (505, j_ld 2 2 506),
  (506, j_ld 2 0 507),
  (507, j_ld 0 4 509),
  (509, j_st (f_psh (.int 1)) 510),
  (510, j_st (f_ii (fun a b => a + b)) 511),
  (511, j_al 0 512),
  (512, j_cv [(11, 96)] 1),
  (515, j_so 0 6 517),
  (517, j_ld 2 2 518),
  (518, j_cv [(11, 107)] 0),
  (521, j_ld 0 5 523),
  (523, j_br (f_ic (fun x y => decide (x = y))) 528 526),
  (526, j_st (f_psh (.int 0)) 527),
  (527, j_rt 3),
  (528, j_ld 0 5 530),
  (530, j_br (f_if (fun x => decide (¬ x = 0))) 545 533)]
theorem o_law4 (G : j_G) : ∀ q ∈ q_law4, j_ok G tm i_law q.1 q.2 := j_all_mem ⟨r_aload_n d_law_436 rfl,
  r_aload_n d_law_437 rfl,
  r_iload d_law_438,
  r_iconst d_law_440 (by decide),
  r_iadd d_law_441,
  r_iaload d_law_442,
  r_aload_n d_law_443 rfl,
  r_invS k_1160 k_1161 cw_La_close (by decide) (by decide +kernel) d_law_444,
  r_istore d_law_447 (by decide),
  r_aload_n d_law_449 rfl,
  r_aload_n d_law_450 rfl,
  r_iload d_law_451,
  r_iconst d_law_453 (by decide),
  r_iadd d_law_454,
  r_iaload d_law_455,
  r_invV (j_all_mem ⟨⟨⟨_, _, _, rfl, k_1329, k_1330, k_1331⟩, cw_Mo_close, by decide, by decide +kernel⟩, trivial⟩) d_law_456,
  r_istore d_law_459 (by decide),
  r_aload_n d_law_461 rfl,
  r_invV (j_all_mem ⟨⟨⟨_, _, _, rfl, k_1289, k_1290, k_1291⟩, cw_Mo_thrown, by decide, by decide +kernel⟩, trivial⟩) d_law_462,
  r_iload d_law_465,
  r_ic_eq d_law_467 (by decide),
  r_iconst d_law_470 (by decide),
  r_zreturn d_law_471 rfl,
  r_iload d_law_472,
  r_if_ne d_law_474 (by decide),
  r_aload_n d_law_477 rfl,
  r_iconst d_law_478 (by decide),
  r_laload d_law_479,
  r_iload d_law_480,
  r_i2l d_law_482,
  r_lcmp d_law_483,
  r_if_eq d_law_484 (by decide),
  r_iconst d_law_487 (by decide),
  r_zreturn d_law_488 rfl,
  r_goto d_law_489 (by decide),
  r_aload_n d_law_492 rfl,
  r_aload_n d_law_493 rfl,
  r_iload d_law_494,
  r_iconst d_law_496 (by decide),
  r_iadd d_law_497,
  r_iaload d_law_498,
  r_aload_n d_law_499 rfl,
  r_invS k_1171 k_1172 cw_La_find (by decide) (by decide +kernel) d_law_500,
  r_istore d_law_503 (by decide),
  r_aload_n d_law_505 rfl,
  r_aload_n d_law_506 rfl,
  r_iload d_law_507,
  r_iconst d_law_509 (by decide),
  r_iadd d_law_510,
  r_iaload d_law_511,
  r_invV (j_all_mem ⟨⟨⟨_, _, _, rfl, k_1333, k_1334, k_1335⟩, cw_Mo_find, by decide, by decide +kernel⟩, trivial⟩) d_law_512,
  r_istore d_law_515 (by decide),
  r_aload_n d_law_517 rfl,
  r_invV (j_all_mem ⟨⟨⟨_, _, _, rfl, k_1289, k_1290, k_1291⟩, cw_Mo_thrown, by decide, by decide +kernel⟩, trivial⟩) d_law_518,
  r_iload d_law_521,
  r_ic_eq d_law_523 (by decide),
  r_iconst d_law_526 (by decide),
  r_zreturn d_law_527 rfl,
  r_iload d_law_528,
  r_if_ne d_law_530 (by decide), trivial⟩
def q_law5 : List (Nat × j_S) := [(533, j_ld 2 3 534),
  (534, j_st (f_psh (.int 0)) 535),
  (535, j_al 1 536),
  (536, j_ld 0 6 538),
  (538, j_st (f_i2l) 539),
  (539, j_st (f_cmp) 540),
  (540, j_br (f_if (fun x => decide (x = 0))) 545 543),
  (543, j_st (f_psh (.int 0)) 544),
  (544, j_rt 3),
  (545, j_st f_id 810),
  (548, j_ld 2 1 549),
  (549, j_ld 2 0 550),
  (550, j_ld 0 4 552),
  (552, j_st (f_psh (.int 1)) 553),
  (553, j_st (f_ii (fun a b => a + b)) 554),
  (554, j_al 0 555),
  (555, j_ld 2 0 556),
  (556, j_ld 0 4 558),
  (558, j_st (f_psh (.int 2)) 559),
  (559, j_st (f_ii (fun a b => a + b)) 560),
  (560, j_al 0 561),
  (561, j_br (f_if (fun x => decide (x = 0))) 568 564),
  (564, j_st (f_psh (.int 1)) 565),
  (565, j_st f_id 569),
  (568, j_st (f_psh (.int 0)) 569),
  (569, j_ld 2 3 570),
  (570, j_cs 67 4),
  (573, j_so 0 5 575),
  (575, j_ld 2 2 576),
  (576, j_ld 2 0 577),
  (577, j_ld 0 4 579),
  (579, j_st (f_psh (.int 1)) 580),
  (580, j_st (f_ii (fun a b => a + b)) 581),
  (581, j_al 0 582),
  (582, j_ld 2 0 583),
  (583, j_ld 0 4 585),
  (585, j_st (f_psh (.int 2)) 586),
  (586, j_st (f_ii (fun a b => a + b)) 587),
  (587, j_al 0 588),
  (588, j_br (f_if (fun x => decide (x = 0))) 595 591),
  (591, j_st (f_psh (.int 1)) 592),
  (592, j_st f_id 596),
  (595, j_st (f_psh (.int 0)) 596),
  (596, j_cv [(11, 105)] 2),
  (599, j_so 0 6 601),
  (601, j_ld 2 2 602),
  (602, j_cv [(11, 107)] 0),
  (605, j_ld 0 5 607),
  (607, j_br (f_ic (fun x y => decide (x = y))) 612 610),
  (610, j_st (f_psh (.int 0)) 611),
  (611, j_rt 3),
  (612, j_ld 0 5 614),
  (614, j_br (f_if (fun x => decide (¬ x = 0))) 629 617),
  (617, j_ld 2 3 618),
  (618, j_st (f_psh (.int 0)) 619),
  (619, j_al 1 620),
  (620, j_ld 0 6 622),
  (622, j_st (f_i2l) 623),
  (623, j_st (f_cmp) 624),
  (624, j_br (f_if (fun x => decide (x = 0))) 629 627)]
theorem o_law5 (G : j_G) : ∀ q ∈ q_law5, j_ok G tm i_law q.1 q.2 := j_all_mem ⟨r_aload_n d_law_533 rfl,
  r_iconst d_law_534 (by decide),
  r_laload d_law_535,
  r_iload d_law_536,
  r_i2l d_law_538,
  r_lcmp d_law_539,
  r_if_eq d_law_540 (by decide),
  r_iconst d_law_543 (by decide),
  r_zreturn d_law_544 rfl,
  r_goto d_law_545 (by decide),
  r_aload_n d_law_548 rfl,
  r_aload_n d_law_549 rfl,
  r_iload d_law_550,
  r_iconst d_law_552 (by decide),
  r_iadd d_law_553,
  r_iaload d_law_554,
  r_aload_n d_law_555 rfl,
  r_iload d_law_556,
  r_iconst d_law_558 (by decide),
  r_iadd d_law_559,
  r_iaload d_law_560,
  r_if_eq d_law_561 (by decide),
  r_iconst d_law_564 (by decide),
  r_goto d_law_565 (by decide),
  r_iconst d_law_568 (by decide),
  r_aload_n d_law_569 rfl,
  r_invS k_1207 k_1208 cw_La_seek (by decide) (by decide +kernel) d_law_570,
  r_istore d_law_573 (by decide),
  r_aload_n d_law_575 rfl,
  r_aload_n d_law_576 rfl,
  r_iload d_law_577,
  r_iconst d_law_579 (by decide),
  r_iadd d_law_580,
  r_iaload d_law_581,
  r_aload_n d_law_582 rfl,
  r_iload d_law_583,
  r_iconst d_law_585 (by decide),
  r_iadd d_law_586,
  r_iaload d_law_587,
  r_if_eq d_law_588 (by decide),
  r_iconst d_law_591 (by decide),
  r_goto d_law_592 (by decide),
  r_iconst d_law_595 (by decide),
  r_invV (j_all_mem ⟨⟨⟨_, _, _, rfl, k_1337, k_1338, k_1339⟩, cw_Mo_seek, by decide, by decide +kernel⟩, trivial⟩) d_law_596,
  r_istore d_law_599 (by decide),
  r_aload_n d_law_601 rfl,
  r_invV (j_all_mem ⟨⟨⟨_, _, _, rfl, k_1289, k_1290, k_1291⟩, cw_Mo_thrown, by decide, by decide +kernel⟩, trivial⟩) d_law_602,
  r_iload d_law_605,
  r_ic_eq d_law_607 (by decide),
  r_iconst d_law_610 (by decide),
  r_zreturn d_law_611 rfl,
  r_iload d_law_612,
  r_if_ne d_law_614 (by decide),
  r_aload_n d_law_617 rfl,
  r_iconst d_law_618 (by decide),
  r_laload d_law_619,
  r_iload d_law_620,
  r_i2l d_law_622,
  r_lcmp d_law_623,
  r_if_eq d_law_624 (by decide), trivial⟩
def q_law6 : List (Nat × j_S) := [(627, j_st (f_psh (.int 0)) 628),
  (628, j_rt 3),
  (629, j_st f_id 810),
  (632, j_ld 2 1 633),
  (633, j_ld 2 0 634),
  (634, j_ld 0 4 636),
  (636, j_st (f_psh (.int 1)) 637),
  (637, j_st (f_ii (fun a b => a + b)) 638),
  (638, j_al 0 639),
  (639, j_ld 2 3 640),
  (640, j_cs 60 3),
  (643, j_so 0 5 645),
  (645, j_ld 2 2 646),
  (646, j_ld 2 0 647),
  (647, j_ld 0 4 649),
  (649, j_st (f_psh (.int 1)) 650),
  (650, j_st (f_ii (fun a b => a + b)) 651),
  (651, j_al 0 652),
  (652, j_cv [(11, 91)] 1),
  (655, j_so 0 6 657),
  (657, j_ld 2 2 658),
  (658, j_cv [(11, 107)] 0),
  (661, j_ld 0 5 663),
  (663, j_br (f_ic (fun x y => decide (x = y))) 668 666),
  (666, j_st (f_psh (.int 0)) 667),
  (667, j_rt 3),
  (668, j_ld 0 5 670),
  (670, j_br (f_if (fun x => decide (¬ x = 0))) 685 673),
  (673, j_ld 2 3 674),
  (674, j_st (f_psh (.int 0)) 675),
  (675, j_al 1 676),
  (676, j_ld 0 6 678),
  (678, j_st (f_i2l) 679),
  (679, j_st (f_cmp) 680),
  (680, j_br (f_if (fun x => decide (x = 0))) 685 683),
  (683, j_st (f_psh (.int 0)) 684),
  (684, j_rt 3),
  (685, j_st f_id 810),
  (688, j_ld 2 1 689),
  (689, j_ld 2 0 690),
  (690, j_ld 0 4 692),
  (692, j_st (f_psh (.int 1)) 693),
  (693, j_st (f_ii (fun a b => a + b)) 694),
  (694, j_al 0 695),
  (695, j_ld 2 3 696),
  (696, j_cs 68 3),
  (699, j_so 0 5 701),
  (701, j_ld 2 2 702),
  (702, j_ld 2 0 703),
  (703, j_ld 0 4 705),
  (705, j_st (f_psh (.int 1)) 706),
  (706, j_st (f_ii (fun a b => a + b)) 707),
  (707, j_al 0 708),
  (708, j_cv [(11, 108)] 1),
  (711, j_so 1 6 713),
  (713, j_ld 2 2 714),
  (714, j_cv [(11, 107)] 0),
  (717, j_ld 0 5 719),
  (719, j_br (f_ic (fun x y => decide (x = y))) 724 722),
  (722, j_st (f_psh (.int 0)) 723)]
theorem o_law6 (G : j_G) : ∀ q ∈ q_law6, j_ok G tm i_law q.1 q.2 := j_all_mem ⟨r_iconst d_law_627 (by decide),
  r_zreturn d_law_628 rfl,
  r_goto d_law_629 (by decide),
  r_aload_n d_law_632 rfl,
  r_aload_n d_law_633 rfl,
  r_iload d_law_634,
  r_iconst d_law_636 (by decide),
  r_iadd d_law_637,
  r_iaload d_law_638,
  r_aload_n d_law_639 rfl,
  r_invS k_1218 k_1219 cw_La_current (by decide) (by decide +kernel) d_law_640,
  r_istore d_law_643 (by decide),
  r_aload_n d_law_645 rfl,
  r_aload_n d_law_646 rfl,
  r_iload d_law_647,
  r_iconst d_law_649 (by decide),
  r_iadd d_law_650,
  r_iaload d_law_651,
  r_invV (j_all_mem ⟨⟨⟨_, _, _, rfl, k_1349, k_1350, k_1351⟩, cw_Mo_current, by decide, by decide +kernel⟩, trivial⟩) d_law_652,
  r_istore d_law_655 (by decide),
  r_aload_n d_law_657 rfl,
  r_invV (j_all_mem ⟨⟨⟨_, _, _, rfl, k_1289, k_1290, k_1291⟩, cw_Mo_thrown, by decide, by decide +kernel⟩, trivial⟩) d_law_658,
  r_iload d_law_661,
  r_ic_eq d_law_663 (by decide),
  r_iconst d_law_666 (by decide),
  r_zreturn d_law_667 rfl,
  r_iload d_law_668,
  r_if_ne d_law_670 (by decide),
  r_aload_n d_law_673 rfl,
  r_iconst d_law_674 (by decide),
  r_laload d_law_675,
  r_iload d_law_676,
  r_i2l d_law_678,
  r_lcmp d_law_679,
  r_if_eq d_law_680 (by decide),
  r_iconst d_law_683 (by decide),
  r_zreturn d_law_684 rfl,
  r_goto d_law_685 (by decide),
  r_aload_n d_law_688 rfl,
  r_aload_n d_law_689 rfl,
  r_iload d_law_690,
  r_iconst d_law_692 (by decide),
  r_iadd d_law_693,
  r_iaload d_law_694,
  r_aload_n d_law_695 rfl,
  r_invS k_1230 k_1231 cw_La_word (by decide) (by decide +kernel) d_law_696,
  r_istore d_law_699 (by decide),
  r_aload_n d_law_701 rfl,
  r_aload_n d_law_702 rfl,
  r_iload d_law_703,
  r_iconst d_law_705 (by decide),
  r_iadd d_law_706,
  r_iaload d_law_707,
  r_invV (j_all_mem ⟨⟨⟨_, _, _, rfl, k_1353, k_1354, k_1355⟩, cw_Mo_word, by decide, by decide +kernel⟩, trivial⟩) d_law_708,
  r_lstore d_law_711 (by decide),
  r_aload_n d_law_713 rfl,
  r_invV (j_all_mem ⟨⟨⟨_, _, _, rfl, k_1289, k_1290, k_1291⟩, cw_Mo_thrown, by decide, by decide +kernel⟩, trivial⟩) d_law_714,
  r_iload d_law_717,
  r_ic_eq d_law_719 (by decide),
  r_iconst d_law_722 (by decide), trivial⟩
def q_law7 : List (Nat × j_S) := [(723, j_rt 3),
  (724, j_ld 0 5 726),
  (726, j_br (f_if (fun x => decide (¬ x = 0))) 740 729),
  (729, j_ld 2 3 730),
  (730, j_st (f_psh (.int 0)) 731),
  (731, j_al 1 732),
  (732, j_ld 1 6 734),
  (734, j_st (f_cmp) 735),
  (735, j_br (f_if (fun x => decide (x = 0))) 740 738),
  (738, j_st (f_psh (.int 0)) 739),
  (739, j_rt 3),
  (740, j_st f_id 810),
  (743, j_ld 2 1 744),
  (744, j_cv [(0, 41)] 0),
  (747, j_ld 2 2 748),
  (748, j_cv [(11, 97)] 0),
  (751, j_br (f_ic (fun x y => decide (x = y))) 810 754),
  (754, j_st (f_psh (.int 0)) 755),
  (755, j_rt 3),
  (756, j_ld 2 1 757),
  (757, j_ld 2 0 758),
  (758, j_ld 0 4 760),
  (760, j_st (f_psh (.int 1)) 761),
  (761, j_st (f_ii (fun a b => a + b)) 762),
  (762, j_al 0 763),
  (763, j_br (f_if (fun x => decide (x = 0))) 770 766),
  (766, j_st (f_psh (.int 1)) 767),
  (767, j_st f_id 771),
  (770, j_st (f_psh (.int 0)) 771),
  (771, j_cv [(0, 45)] 1),
  (774, j_ld 2 2 775),
  (775, j_ld 2 0 776),
  (776, j_ld 0 4 778),
  (778, j_st (f_psh (.int 1)) 779),
  (779, j_st (f_ii (fun a b => a + b)) 780),
  (780, j_al 0 781),
  (781, j_br (f_if (fun x => decide (x = 0))) 788 784),
  (784, j_st (f_psh (.int 1)) 785),
  (785, j_st f_id 789),
  (788, j_st (f_psh (.int 0)) 789),
  (789, j_cv [(11, 100)] 1),
  (792, j_br (f_ic (fun x y => decide (x = y))) 810 795),
  (795, j_st (f_psh (.int 0)) 796),
  (796, j_rt 3),
  (797, j_ld 2 1 798),
  (798, j_cv [(0, 34)] 0),
  (801, j_ld 2 2 802),
  (802, j_cv [(11, 87)] 0),
  (805, j_br (f_ic (fun x y => decide (x = y))) 810 808),
  (808, j_st (f_psh (.int 0)) 809),
  (809, j_rt 3),
  (810, j_ic 4 6 813),
  (813, j_st f_id 23),
  (816, j_st (f_psh (.int 1)) 817),
  (817, j_rt 3)]
theorem o_law7 (G : j_G) : ∀ q ∈ q_law7, j_ok G tm i_law q.1 q.2 := j_all_mem ⟨r_zreturn d_law_723 rfl,
  r_iload d_law_724,
  r_if_ne d_law_726 (by decide),
  r_aload_n d_law_729 rfl,
  r_iconst d_law_730 (by decide),
  r_laload d_law_731,
  r_lload d_law_732,
  r_lcmp d_law_734,
  r_if_eq d_law_735 (by decide),
  r_iconst d_law_738 (by decide),
  r_zreturn d_law_739 rfl,
  r_goto d_law_740 (by decide),
  r_aload_n d_law_743 rfl,
  r_invV (j_all_mem ⟨⟨⟨_, _, _, rfl, k_283, k_284, k_285⟩, cw_LT_flush, by decide, by decide +kernel⟩, trivial⟩) d_law_744,
  r_aload_n d_law_747 rfl,
  r_invV (j_all_mem ⟨⟨⟨_, _, _, rfl, k_1358, k_1359, k_1360⟩, cw_Mo_flush, by decide, by decide +kernel⟩, trivial⟩) d_law_748,
  r_ic_eq d_law_751 (by decide),
  r_iconst d_law_754 (by decide),
  r_zreturn d_law_755 rfl,
  r_aload_n d_law_756 rfl,
  r_aload_n d_law_757 rfl,
  r_iload d_law_758,
  r_iconst d_law_760 (by decide),
  r_iadd d_law_761,
  r_iaload d_law_762,
  r_if_eq d_law_763 (by decide),
  r_iconst d_law_766 (by decide),
  r_goto d_law_767 (by decide),
  r_iconst d_law_770 (by decide),
  r_invV (j_all_mem ⟨⟨⟨_, _, _, rfl, k_977, k_978, k_979⟩, cw_LT_merge, by decide, by decide +kernel⟩, trivial⟩) d_law_771,
  r_aload_n d_law_774 rfl,
  r_aload_n d_law_775 rfl,
  r_iload d_law_776,
  r_iconst d_law_778 (by decide),
  r_iadd d_law_779,
  r_iaload d_law_780,
  r_if_eq d_law_781 (by decide),
  r_iconst d_law_784 (by decide),
  r_goto d_law_785 (by decide),
  r_iconst d_law_788 (by decide),
  r_invV (j_all_mem ⟨⟨⟨_, _, _, rfl, k_1366, k_1367, k_1368⟩, cw_Mo_merge, by decide, by decide +kernel⟩, trivial⟩) d_law_789,
  r_ic_eq d_law_792 (by decide),
  r_iconst d_law_795 (by decide),
  r_zreturn d_law_796 rfl,
  r_aload_n d_law_797 rfl,
  r_invV (j_all_mem ⟨⟨⟨_, _, _, rfl, k_986, k_987, k_988⟩, cw_LT_check, by decide, by decide +kernel⟩, trivial⟩) d_law_798,
  r_aload_n d_law_801 rfl,
  r_invV (j_all_mem ⟨⟨⟨_, _, _, rfl, k_1370, k_1371, k_1372⟩, cw_Mo_check, by decide, by decide +kernel⟩, trivial⟩) d_law_802,
  r_ic_eq d_law_805 (by decide),
  r_iconst d_law_808 (by decide),
  r_zreturn d_law_809 rfl,
  j_ok_ic d_law_810 rfl (by decide) (by decide),
  r_goto d_law_813 (by decide),
  r_iconst d_law_816 (by decide),
  r_zreturn d_law_817 rfl, trivial⟩
def q_law : List (Nat × j_S) := q_law0 ++ (q_law1 ++ (q_law2 ++ (q_law3 ++ (q_law4 ++ (q_law5 ++ (q_law6 ++ (q_law7)))))))
theorem o_law (G : j_G) (pc : Nat) : j_ok G tm i_law pc (j_tab q_law pc) := j_tab_ok (List.forall_mem_append.mpr ⟨o_law0 G, List.forall_mem_append.mpr ⟨o_law1 G, List.forall_mem_append.mpr ⟨o_law2 G, List.forall_mem_append.mpr ⟨o_law3 G, List.forall_mem_append.mpr ⟨o_law4 G, List.forall_mem_append.mpr ⟨o_law5 G, List.forall_mem_append.mpr ⟨o_law6 G, o_law7 G⟩⟩⟩⟩⟩⟩⟩) pc
