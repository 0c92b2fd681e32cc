/-! the machine follows the functions -/
theorem dX12_slip_0 : decode cX12_slip 0 = .ok (.aload_n 0, 1) := by decide +kernel
theorem dX12_slip_1 : decode cX12_slip 1 = .ok (.iconst 1, 1) := by decide +kernel
theorem dX12_slip_2 : decode cX12_slip 2 = .ok (.putfield 296, 3) := by decide +kernel
theorem dX12_slip_5 : decode cX12_slip 5 = .ok (.aload_n 0, 1) := by decide +kernel
theorem dX12_slip_6 : decode cX12_slip 6 = .ok (.iconst 1, 1) := by decide +kernel
theorem dX12_slip_7 : decode cX12_slip 7 = .ok (.putfield 299, 3) := by decide +kernel
theorem dX12_slip_10 : decode cX12_slip 10 = .ok (.iload_n 3, 1) := by decide +kernel
theorem dX12_slip_11 : decode cX12_slip 11 = .ok (.aload_n 0, 1) := by decide +kernel
theorem dX12_slip_12 : decode cX12_slip 12 = .ok (.getfield 228, 3) := by decide +kernel
theorem dX12_slip_15 : decode cX12_slip 15 = .ok (.if_icmp .ge 7, 3) := by decide +kernel
theorem dX12_slip_18 : decode cX12_slip 18 = .ok (.iconst 1, 1) := by decide +kernel
theorem dX12_slip_19 : decode cX12_slip 19 = .ok (.goto 4, 3) := by decide +kernel
theorem dX12_slip_22 : decode cX12_slip 22 = .ok (.iconst 0, 1) := by decide +kernel
theorem dX12_slip_23 : decode cX12_slip 23 = .ok (.istore 5, 2) := by decide +kernel
theorem dX12_slip_25 : decode cX12_slip 25 = .ok (.iload 4, 2) := by decide +kernel
theorem dX12_slip_27 : decode cX12_slip 27 = .ok (.aload_n 0, 1) := by decide +kernel
theorem dX12_slip_28 : decode cX12_slip 28 = .ok (.getfield 231, 3) := by decide +kernel
theorem dX12_slip_31 : decode cX12_slip 31 = .ok (.if_icmp .ge 7, 3) := by decide +kernel
theorem dX12_slip_34 : decode cX12_slip 34 = .ok (.iconst 1, 1) := by decide +kernel
theorem dX12_slip_35 : decode cX12_slip 35 = .ok (.goto 4, 3) := by decide +kernel
theorem dX12_slip_38 : decode cX12_slip 38 = .ok (.iconst 0, 1) := by decide +kernel
theorem dX12_slip_39 : decode cX12_slip 39 = .ok (.istore 6, 2) := by decide +kernel
theorem dX12_slip_41 : decode cX12_slip 41 = .ok (.iload_n 1, 1) := by decide +kernel
theorem dX12_slip_42 : decode cX12_slip 42 = .ok (.tableswitch 413 0 6 #[42, 76, 126, 153, 181, 278, 346], 42) := by decide +kernel
theorem dX12_slip_84 : decode cX12_slip 84 = .ok (.iload 5, 2) := by decide +kernel
theorem dX12_slip_86 : decode cX12_slip 86 = .ok (.ifCond .eq 28, 3) := by decide +kernel
theorem dX12_slip_89 : decode cX12_slip 89 = .ok (.iload 6, 2) := by decide +kernel
theorem dX12_slip_91 : decode cX12_slip 91 = .ok (.ifCond .eq 23, 3) := by decide +kernel
theorem dX12_slip_94 : decode cX12_slip 94 = .ok (.aload_n 0, 1) := by decide +kernel
theorem dX12_slip_95 : decode cX12_slip 95 = .ok (.getfield 62, 3) := by decide +kernel
theorem dX12_slip_98 : decode cX12_slip 98 = .ok (.iload_n 3, 1) := by decide +kernel
theorem dX12_slip_99 : decode cX12_slip 99 = .ok (.iaload, 1) := by decide +kernel
theorem dX12_slip_100 : decode cX12_slip 100 = .ok (.aload_n 0, 1) := by decide +kernel
theorem dX12_slip_101 : decode cX12_slip 101 = .ok (.getfield 65, 3) := by decide +kernel
theorem dX12_slip_104 : decode cX12_slip 104 = .ok (.iload 4, 2) := by decide +kernel
theorem dX12_slip_106 : decode cX12_slip 106 = .ok (.iaload, 1) := by decide +kernel
theorem dX12_slip_107 : decode cX12_slip 107 = .ok (.if_icmp .ne 7, 3) := by decide +kernel
theorem dX12_slip_110 : decode cX12_slip 110 = .ok (.iconst 0, 1) := by decide +kernel
theorem dX12_slip_111 : decode cX12_slip 111 = .ok (.goto 6, 3) := by decide +kernel
theorem dX12_slip_114 : decode cX12_slip 114 = .ok (.ldc_w 302, 3) := by decide +kernel
theorem dX12_slip_117 : decode cX12_slip 117 = .ok (.ireturn, 1) := by decide +kernel
theorem dX12_slip_118 : decode cX12_slip 118 = .ok (.iload 5, 2) := by decide +kernel
theorem dX12_slip_120 : decode cX12_slip 120 = .ok (.ifCond .eq 44, 3) := by decide +kernel
theorem dX12_slip_123 : decode cX12_slip 123 = .ok (.iload 6, 2) := by decide +kernel
theorem dX12_slip_125 : decode cX12_slip 125 = .ok (.ifCond .eq 39, 3) := by decide +kernel
theorem dX12_slip_128 : decode cX12_slip 128 = .ok (.aload_n 0, 1) := by decide +kernel
theorem dX12_slip_129 : decode cX12_slip 129 = .ok (.getfield 62, 3) := by decide +kernel
theorem dX12_slip_132 : decode cX12_slip 132 = .ok (.iload_n 3, 1) := by decide +kernel
theorem dX12_slip_133 : decode cX12_slip 133 = .ok (.iaload, 1) := by decide +kernel
theorem dX12_slip_134 : decode cX12_slip 134 = .ok (.aload_n 0, 1) := by decide +kernel
theorem dX12_slip_135 : decode cX12_slip 135 = .ok (.getfield 65, 3) := by decide +kernel
theorem dX12_slip_138 : decode cX12_slip 138 = .ok (.iload 4, 2) := by decide +kernel
theorem dX12_slip_140 : decode cX12_slip 140 = .ok (.iaload, 1) := by decide +kernel
theorem dX12_slip_141 : decode cX12_slip 141 = .ok (.if_icmp .eq 23, 3) := by decide +kernel
theorem dX12_slip_144 : decode cX12_slip 144 = .ok (.aload_n 0, 1) := by decide +kernel
theorem dX12_slip_145 : decode cX12_slip 145 = .ok (.aload_n 0, 1) := by decide +kernel
theorem dX12_slip_146 : decode cX12_slip 146 = .ok (.getfield 62, 3) := by decide +kernel
theorem dX12_slip_149 : decode cX12_slip 149 = .ok (.iload_n 3, 1) := by decide +kernel
theorem dX12_slip_150 : decode cX12_slip 150 = .ok (.iaload, 1) := by decide +kernel
theorem dX12_slip_151 : decode cX12_slip 151 = .ok (.aload_n 0, 1) := by decide +kernel
theorem dX12_slip_152 : decode cX12_slip 152 = .ok (.getfield 65, 3) := by decide +kernel
theorem dX12_slip_155 : decode cX12_slip 155 = .ok (.iload 4, 2) := by decide +kernel
theorem dX12_slip_157 : decode cX12_slip 157 = .ok (.iaload, 1) := by decide +kernel
theorem dX12_slip_158 : decode cX12_slip 158 = .ok (.invokevirtual 303, 3) := by decide +kernel
theorem dX12_slip_161 : decode cX12_slip 161 = .ok (.goto 6, 3) := by decide +kernel
theorem dX12_slip_164 : decode cX12_slip 164 = .ok (.ldc_w 302, 3) := by decide +kernel
theorem dX12_slip_167 : decode cX12_slip 167 = .ok (.ireturn, 1) := by decide +kernel
theorem dX12_slip_168 : decode cX12_slip 168 = .ok (.aload_n 0, 1) := by decide +kernel
theorem dX12_slip_169 : decode cX12_slip 169 = .ok (.iconst 0, 1) := by decide +kernel
theorem dX12_slip_170 : decode cX12_slip 170 = .ok (.putfield 299, 3) := by decide +kernel
theorem dX12_slip_173 : decode cX12_slip 173 = .ok (.iload 5, 2) := by decide +kernel
theorem dX12_slip_175 : decode cX12_slip 175 = .ok (.ifCond .eq 16, 3) := by decide +kernel
theorem dX12_slip_178 : decode cX12_slip 178 = .ok (.aload_n 0, 1) := by decide +kernel
theorem dX12_slip_179 : decode cX12_slip 179 = .ok (.aload_n 0, 1) := by decide +kernel
theorem dX12_slip_180 : decode cX12_slip 180 = .ok (.getfield 62, 3) := by decide +kernel
theorem dX12_slip_183 : decode cX12_slip 183 = .ok (.iload_n 3, 1) := by decide +kernel
theorem dX12_slip_184 : decode cX12_slip 184 = .ok (.iaload, 1) := by decide +kernel
theorem dX12_slip_185 : decode cX12_slip 185 = .ok (.invokevirtual 306, 3) := by decide +kernel
theorem dX12_slip_188 : decode cX12_slip 188 = .ok (.goto 6, 3) := by decide +kernel
theorem dX12_slip_191 : decode cX12_slip 191 = .ok (.ldc_w 302, 3) := by decide +kernel
theorem dX12_slip_194 : decode cX12_slip 194 = .ok (.ireturn, 1) := by decide +kernel
theorem dX12_slip_195 : decode cX12_slip 195 = .ok (.aload_n 0, 1) := by decide +kernel
theorem dX12_slip_196 : decode cX12_slip 196 = .ok (.iconst 0, 1) := by decide +kernel
theorem dX12_slip_197 : decode cX12_slip 197 = .ok (.putfield 296, 3) := by decide +kernel
theorem dX12_slip_200 : decode cX12_slip 200 = .ok (.iload 6, 2) := by decide +kernel
theorem dX12_slip_202 : decode cX12_slip 202 = .ok (.ifCond .eq 17, 3) := by decide +kernel
theorem dX12_slip_205 : decode cX12_slip 205 = .ok (.aload_n 0, 1) := by decide +kernel
theorem dX12_slip_206 : decode cX12_slip 206 = .ok (.aload_n 0, 1) := by decide +kernel
theorem dX12_slip_207 : decode cX12_slip 207 = .ok (.getfield 65, 3) := by decide +kernel
theorem dX12_slip_210 : decode cX12_slip 210 = .ok (.iload 4, 2) := by decide +kernel
theorem dX12_slip_212 : decode cX12_slip 212 = .ok (.iaload, 1) := by decide +kernel
theorem dX12_slip_213 : decode cX12_slip 213 = .ok (.invokevirtual 309, 3) := by decide +kernel
theorem dX12_slip_216 : decode cX12_slip 216 = .ok (.goto 6, 3) := by decide +kernel
theorem dX12_slip_219 : decode cX12_slip 219 = .ok (.ldc_w 302, 3) := by decide +kernel
theorem dX12_slip_222 : decode cX12_slip 222 = .ok (.ireturn, 1) := by decide +kernel
theorem dX12_slip_223 : decode cX12_slip 223 = .ok (.aload_n 0, 1) := by decide +kernel
theorem dX12_slip_224 : decode cX12_slip 224 = .ok (.iconst 2, 1) := by decide +kernel
theorem dX12_slip_225 : decode cX12_slip 225 = .ok (.putfield 296, 3) := by decide +kernel
theorem dX12_slip_228 : decode cX12_slip 228 = .ok (.aload_n 0, 1) := by decide +kernel
theorem dX12_slip_229 : decode cX12_slip 229 = .ok (.iconst 2, 1) := by decide +kernel
theorem dX12_slip_230 : decode cX12_slip 230 = .ok (.putfield 299, 3) := by decide +kernel
theorem dX12_slip_233 : decode cX12_slip 233 = .ok (.iload_n 3, 1) := by decide +kernel
theorem dX12_slip_234 : decode cX12_slip 234 = .ok (.iconst 1, 1) := by decide +kernel
theorem dX12_slip_235 : decode cX12_slip 235 = .ok (.iadd, 1) := by decide +kernel
theorem dX12_slip_236 : decode cX12_slip 236 = .ok (.aload_n 0, 1) := by decide +kernel
theorem dX12_slip_237 : decode cX12_slip 237 = .ok (.getfield 228, 3) := by decide +kernel
theorem dX12_slip_240 : decode cX12_slip 240 = .ok (.if_icmp .ge 76, 3) := by decide +kernel
theorem dX12_slip_243 : decode cX12_slip 243 = .ok (.iload 4, 2) := by decide +kernel
theorem dX12_slip_245 : decode cX12_slip 245 = .ok (.iconst 1, 1) := by decide +kernel
theorem dX12_slip_246 : decode cX12_slip 246 = .ok (.iadd, 1) := by decide +kernel
theorem dX12_slip_247 : decode cX12_slip 247 = .ok (.aload_n 0, 1) := by decide +kernel
theorem dX12_slip_248 : decode cX12_slip 248 = .ok (.getfield 231, 3) := by decide +kernel
theorem dX12_slip_251 : decode cX12_slip 251 = .ok (.if_icmp .ge 65, 3) := by decide +kernel
theorem dX12_slip_254 : decode cX12_slip 254 = .ok (.aload_n 0, 1) := by decide +kernel
theorem dX12_slip_255 : decode cX12_slip 255 = .ok (.getfield 62, 3) := by decide +kernel
theorem dX12_slip_258 : decode cX12_slip 258 = .ok (.iload_n 3, 1) := by decide +kernel
theorem dX12_slip_259 : decode cX12_slip 259 = .ok (.iaload, 1) := by decide +kernel
theorem dX12_slip_260 : decode cX12_slip 260 = .ok (.aload_n 0, 1) := by decide +kernel
theorem dX12_slip_261 : decode cX12_slip 261 = .ok (.getfield 62, 3) := by decide +kernel
theorem dX12_slip_264 : decode cX12_slip 264 = .ok (.iload_n 3, 1) := by decide +kernel
theorem dX12_slip_265 : decode cX12_slip 265 = .ok (.iconst 1, 1) := by decide +kernel
theorem dX12_slip_266 : decode cX12_slip 266 = .ok (.iadd, 1) := by decide +kernel
theorem dX12_slip_267 : decode cX12_slip 267 = .ok (.iaload, 1) := by decide +kernel
theorem dX12_slip_268 : decode cX12_slip 268 = .ok (.if_icmp .eq 48, 3) := by decide +kernel
theorem dX12_slip_271 : decode cX12_slip 271 = .ok (.aload_n 0, 1) := by decide +kernel
theorem dX12_slip_272 : decode cX12_slip 272 = .ok (.getfield 62, 3) := by decide +kernel
theorem dX12_slip_275 : decode cX12_slip 275 = .ok (.iload_n 3, 1) := by decide +kernel
theorem dX12_slip_276 : decode cX12_slip 276 = .ok (.iaload, 1) := by decide +kernel
theorem dX12_slip_277 : decode cX12_slip 277 = .ok (.aload_n 0, 1) := by decide +kernel
theorem dX12_slip_278 : decode cX12_slip 278 = .ok (.getfield 65, 3) := by decide +kernel
theorem dX12_slip_281 : decode cX12_slip 281 = .ok (.iload 4, 2) := by decide +kernel
theorem dX12_slip_283 : decode cX12_slip 283 = .ok (.iconst 1, 1) := by decide +kernel
theorem dX12_slip_284 : decode cX12_slip 284 = .ok (.iadd, 1) := by decide +kernel
theorem dX12_slip_285 : decode cX12_slip 285 = .ok (.iaload, 1) := by decide +kernel
theorem dX12_slip_286 : decode cX12_slip 286 = .ok (.if_icmp .ne 30, 3) := by decide +kernel
theorem dX12_slip_289 : decode cX12_slip 289 = .ok (.aload_n 0, 1) := by decide +kernel
theorem dX12_slip_290 : decode cX12_slip 290 = .ok (.getfield 62, 3) := by decide +kernel
theorem dX12_slip_293 : decode cX12_slip 293 = .ok (.iload_n 3, 1) := by decide +kernel
theorem dX12_slip_294 : decode cX12_slip 294 = .ok (.iconst 1, 1) := by decide +kernel
theorem dX12_slip_295 : decode cX12_slip 295 = .ok (.iadd, 1) := by decide +kernel
theorem dX12_slip_296 : decode cX12_slip 296 = .ok (.iaload, 1) := by decide +kernel
theorem dX12_slip_297 : decode cX12_slip 297 = .ok (.aload_n 0, 1) := by decide +kernel
theorem dX12_slip_298 : decode cX12_slip 298 = .ok (.getfield 65, 3) := by decide +kernel
theorem dX12_slip_301 : decode cX12_slip 301 = .ok (.iload 4, 2) := by decide +kernel
theorem dX12_slip_303 : decode cX12_slip 303 = .ok (.iaload, 1) := by decide +kernel
theorem dX12_slip_304 : decode cX12_slip 304 = .ok (.if_icmp .ne 12, 3) := by decide +kernel
theorem dX12_slip_307 : decode cX12_slip 307 = .ok (.aload_n 0, 1) := by decide +kernel
theorem dX12_slip_308 : decode cX12_slip 308 = .ok (.getfield 28, 3) := by decide +kernel
theorem dX12_slip_311 : decode cX12_slip 311 = .ok (.iconst 4, 1) := by decide +kernel
theorem dX12_slip_312 : decode cX12_slip 312 = .ok (.iaload, 1) := by decide +kernel
theorem dX12_slip_313 : decode cX12_slip 313 = .ok (.goto 6, 3) := by decide +kernel
theorem dX12_slip_316 : decode cX12_slip 316 = .ok (.ldc_w 302, 3) := by decide +kernel
theorem dX12_slip_319 : decode cX12_slip 319 = .ok (.ireturn, 1) := by decide +kernel
theorem dX12_slip_320 : decode cX12_slip 320 = .ok (.aload_n 0, 1) := by decide +kernel
theorem dX12_slip_321 : decode cX12_slip 321 = .ok (.iconst 2, 1) := by decide +kernel
theorem dX12_slip_322 : decode cX12_slip 322 = .ok (.putfield 299, 3) := by decide +kernel
theorem dX12_slip_325 : decode cX12_slip 325 = .ok (.iload 5, 2) := by decide +kernel
theorem dX12_slip_327 : decode cX12_slip 327 = .ok (.ifCond .eq 57, 3) := by decide +kernel
theorem dX12_slip_330 : decode cX12_slip 330 = .ok (.iload 4, 2) := by decide +kernel
theorem dX12_slip_332 : decode cX12_slip 332 = .ok (.iconst 1, 1) := by decide +kernel
theorem dX12_slip_333 : decode cX12_slip 333 = .ok (.iadd, 1) := by decide +kernel
theorem dX12_slip_334 : decode cX12_slip 334 = .ok (.aload_n 0, 1) := by decide +kernel
theorem dX12_slip_335 : decode cX12_slip 335 = .ok (.getfield 231, 3) := by decide +kernel
theorem dX12_slip_338 : decode cX12_slip 338 = .ok (.if_icmp .ge 46, 3) := by decide +kernel
theorem dX12_slip_341 : decode cX12_slip 341 = .ok (.aload_n 0, 1) := by decide +kernel
theorem dX12_slip_342 : decode cX12_slip 342 = .ok (.getfield 62, 3) := by decide +kernel
theorem dX12_slip_345 : decode cX12_slip 345 = .ok (.iload_n 3, 1) := by decide +kernel
theorem dX12_slip_346 : decode cX12_slip 346 = .ok (.iaload, 1) := by decide +kernel
theorem dX12_slip_347 : decode cX12_slip 347 = .ok (.aload_n 0, 1) := by decide +kernel
theorem dX12_slip_348 : decode cX12_slip 348 = .ok (.getfield 65, 3) := by decide +kernel
theorem dX12_slip_351 : decode cX12_slip 351 = .ok (.iload 4, 2) := by decide +kernel
theorem dX12_slip_353 : decode cX12_slip 353 = .ok (.iaload, 1) := by decide +kernel
theorem dX12_slip_354 : decode cX12_slip 354 = .ok (.if_icmp .ne 30, 3) := by decide +kernel
theorem dX12_slip_357 : decode cX12_slip 357 = .ok (.aload_n 0, 1) := by decide +kernel
theorem dX12_slip_358 : decode cX12_slip 358 = .ok (.getfield 62, 3) := by decide +kernel
theorem dX12_slip_361 : decode cX12_slip 361 = .ok (.iload_n 3, 1) := by decide +kernel
theorem dX12_slip_362 : decode cX12_slip 362 = .ok (.iaload, 1) := by decide +kernel
theorem dX12_slip_363 : decode cX12_slip 363 = .ok (.aload_n 0, 1) := by decide +kernel
theorem dX12_slip_364 : decode cX12_slip 364 = .ok (.getfield 65, 3) := by decide +kernel
theorem dX12_slip_367 : decode cX12_slip 367 = .ok (.iload 4, 2) := by decide +kernel
theorem dX12_slip_369 : decode cX12_slip 369 = .ok (.iconst 1, 1) := by decide +kernel
theorem dX12_slip_370 : decode cX12_slip 370 = .ok (.iadd, 1) := by decide +kernel
theorem dX12_slip_371 : decode cX12_slip 371 = .ok (.iaload, 1) := by decide +kernel
theorem dX12_slip_372 : decode cX12_slip 372 = .ok (.if_icmp .ne 12, 3) := by decide +kernel
theorem dX12_slip_375 : decode cX12_slip 375 = .ok (.aload_n 0, 1) := by decide +kernel
theorem dX12_slip_376 : decode cX12_slip 376 = .ok (.getfield 28, 3) := by decide +kernel
theorem dX12_slip_379 : decode cX12_slip 379 = .ok (.iconst 5, 1) := by decide +kernel
theorem dX12_slip_380 : decode cX12_slip 380 = .ok (.iaload, 1) := by decide +kernel
theorem dX12_slip_381 : decode cX12_slip 381 = .ok (.goto 6, 3) := by decide +kernel
theorem dX12_slip_384 : decode cX12_slip 384 = .ok (.ldc_w 302, 3) := by decide +kernel
theorem dX12_slip_387 : decode cX12_slip 387 = .ok (.ireturn, 1) := by decide +kernel
theorem dX12_slip_388 : decode cX12_slip 388 = .ok (.aload_n 0, 1) := by decide +kernel
theorem dX12_slip_389 : decode cX12_slip 389 = .ok (.iconst 2, 1) := by decide +kernel
theorem dX12_slip_390 : decode cX12_slip 390 = .ok (.putfield 296, 3) := by decide +kernel
theorem dX12_slip_393 : decode cX12_slip 393 = .ok (.iload_n 3, 1) := by decide +kernel
theorem dX12_slip_394 : decode cX12_slip 394 = .ok (.iconst 1, 1) := by decide +kernel
theorem dX12_slip_395 : decode cX12_slip 395 = .ok (.iadd, 1) := by decide +kernel
theorem dX12_slip_396 : decode cX12_slip 396 = .ok (.aload_n 0, 1) := by decide +kernel
theorem dX12_slip_397 : decode cX12_slip 397 = .ok (.getfield 228, 3) := by decide +kernel
theorem dX12_slip_400 : decode cX12_slip 400 = .ok (.if_icmp .ge 51, 3) := by decide +kernel
theorem dX12_slip_403 : decode cX12_slip 403 = .ok (.iload 6, 2) := by decide +kernel
theorem dX12_slip_405 : decode cX12_slip 405 = .ok (.ifCond .eq 46, 3) := by decide +kernel
theorem dX12_slip_408 : decode cX12_slip 408 = .ok (.aload_n 0, 1) := by decide +kernel
theorem dX12_slip_409 : decode cX12_slip 409 = .ok (.getfield 62, 3) := by decide +kernel
theorem dX12_slip_412 : decode cX12_slip 412 = .ok (.iload_n 3, 1) := by decide +kernel
theorem dX12_slip_413 : decode cX12_slip 413 = .ok (.iaload, 1) := by decide +kernel
theorem dX12_slip_414 : decode cX12_slip 414 = .ok (.aload_n 0, 1) := by decide +kernel
theorem dX12_slip_415 : decode cX12_slip 415 = .ok (.getfield 62, 3) := by decide +kernel
theorem dX12_slip_418 : decode cX12_slip 418 = .ok (.iload_n 3, 1) := by decide +kernel
theorem dX12_slip_419 : decode cX12_slip 419 = .ok (.iconst 1, 1) := by decide +kernel
theorem dX12_slip_420 : decode cX12_slip 420 = .ok (.iadd, 1) := by decide +kernel
theorem dX12_slip_421 : decode cX12_slip 421 = .ok (.iaload, 1) := by decide +kernel
theorem dX12_slip_422 : decode cX12_slip 422 = .ok (.if_icmp .ne 29, 3) := by decide +kernel
theorem dX12_slip_425 : decode cX12_slip 425 = .ok (.aload_n 0, 1) := by decide +kernel
theorem dX12_slip_426 : decode cX12_slip 426 = .ok (.getfield 62, 3) := by decide +kernel
theorem dX12_slip_429 : decode cX12_slip 429 = .ok (.iload_n 3, 1) := by decide +kernel
theorem dX12_slip_430 : decode cX12_slip 430 = .ok (.iaload, 1) := by decide +kernel
theorem dX12_slip_431 : decode cX12_slip 431 = .ok (.aload_n 0, 1) := by decide +kernel
theorem dX12_slip_432 : decode cX12_slip 432 = .ok (.getfield 65, 3) := by decide +kernel
theorem dX12_slip_435 : decode cX12_slip 435 = .ok (.iload 4, 2) := by decide +kernel
theorem dX12_slip_437 : decode cX12_slip 437 = .ok (.iaload, 1) := by decide +kernel
theorem dX12_slip_438 : decode cX12_slip 438 = .ok (.if_icmp .ne 13, 3) := by decide +kernel
theorem dX12_slip_441 : decode cX12_slip 441 = .ok (.aload_n 0, 1) := by decide +kernel
theorem dX12_slip_442 : decode cX12_slip 442 = .ok (.getfield 28, 3) := by decide +kernel
theorem dX12_slip_445 : decode cX12_slip 445 = .ok (.bipush 6, 2) := by decide +kernel
theorem dX12_slip_447 : decode cX12_slip 447 = .ok (.iaload, 1) := by decide +kernel
theorem dX12_slip_448 : decode cX12_slip 448 = .ok (.goto 6, 3) := by decide +kernel
theorem dX12_slip_451 : decode cX12_slip 451 = .ok (.ldc_w 302, 3) := by decide +kernel
theorem dX12_slip_454 : decode cX12_slip 454 = .ok (.ireturn, 1) := by decide +kernel
theorem dX12_slip_455 : decode cX12_slip 455 = .ok (.aload_n 0, 1) := by decide +kernel
theorem dX12_slip_456 : decode cX12_slip 456 = .ok (.aload_n 0, 1) := by decide +kernel
theorem dX12_slip_457 : decode cX12_slip 457 = .ok (.getfield 47, 3) := by decide +kernel
theorem dX12_slip_460 : decode cX12_slip 460 = .ok (.iload_n 2, 1) := by decide +kernel
theorem dX12_slip_461 : decode cX12_slip 461 = .ok (.iaload, 1) := by decide +kernel
theorem dX12_slip_462 : decode cX12_slip 462 = .ok (.putfield 296, 3) := by decide +kernel
theorem dX12_slip_465 : decode cX12_slip 465 = .ok (.aload_n 0, 1) := by decide +kernel
theorem dX12_slip_466 : decode cX12_slip 466 = .ok (.aload_n 0, 1) := by decide +kernel
theorem dX12_slip_467 : decode cX12_slip 467 = .ok (.getfield 53, 3) := by decide +kernel
theorem dX12_slip_470 : decode cX12_slip 470 = .ok (.iload_n 2, 1) := by decide +kernel
theorem dX12_slip_471 : decode cX12_slip 471 = .ok (.iaload, 1) := by decide +kernel
theorem dX12_slip_472 : decode cX12_slip 472 = .ok (.putfield 299, 3) := by decide +kernel
theorem dX12_slip_475 : decode cX12_slip 475 = .ok (.aload_n 0, 1) := by decide +kernel
theorem dX12_slip_476 : decode cX12_slip 476 = .ok (.iload_n 2, 1) := by decide +kernel
theorem dX12_slip_477 : decode cX12_slip 477 = .ok (.iload_n 3, 1) := by decide +kernel
theorem dX12_slip_478 : decode cX12_slip 478 = .ok (.iload 4, 2) := by decide +kernel
theorem dX12_slip_480 : decode cX12_slip 480 = .ok (.invokevirtual 312, 3) := by decide +kernel
theorem dX12_slip_483 : decode cX12_slip 483 = .ok (.ifCond .eq 12, 3) := by decide +kernel
theorem dX12_slip_486 : decode cX12_slip 486 = .ok (.aload_n 0, 1) := by decide +kernel
theorem dX12_slip_487 : decode cX12_slip 487 = .ok (.getfield 59, 3) := by decide +kernel
theorem dX12_slip_490 : decode cX12_slip 490 = .ok (.iload_n 2, 1) := by decide +kernel
theorem dX12_slip_491 : decode cX12_slip 491 = .ok (.iaload, 1) := by decide +kernel
theorem dX12_slip_492 : decode cX12_slip 492 = .ok (.goto 6, 3) := by decide +kernel
theorem dX12_slip_495 : decode cX12_slip 495 = .ok (.ldc_w 302, 3) := by decide +kernel
theorem dX12_slip_498 : decode cX12_slip 498 = .ok (.ireturn, 1) := by decide +kernel
theorem j_Md_slip_39 {l1 : Int} {l2 : Int} {l3 : Int} {l4 : Int} {l5 : Int} {s0 : Int} {h : xH} {r0 : Int} {h0 : xH}  (hf : f_Md_slip_39 l1 l2 l3 l4 l5 s0 h = some (r0, h0))  : J mX12_slip true 0 0 39 xKn [(0, xR 81), (1, xI l1), (2, xI l2), (3, xI l3), (4, xI l4), (5, xI l5)] [xI s0] h (xEq (some r0) h0) := by
  unfold f_Md_slip_39 at hf
  refine J_istore (ls' := [(6, xI s0), (0, xR 81), (1, xI l1), (2, xI l2), (3, xI l3), (4, xI l4), (5, xI l5)]) dX12_slip_39 (by decide) rfl rfl ?_
  refine J_iload_n 2 dX12_slip_41 rfl rfl ?_
  refine J_by (c := l1 = 0) (fun hc0 => ?_) (fun hc0 => ?_)
  · have hf := xip hc0 hf
    refine J_tswIn (tgt := 84) dX12_slip_42 0 hc0 (by decide) (by decide) rfl (by decide) ?_
    refine J_iload 6 dX12_slip_84 rfl ?_
    refine J_if_eq (tgt := 114) dX12_slip_86 (by decide) (fun hc => ?_) (fun hc => ?_)
    · have hf := xip hc hf
      refine J_ldcw (v := 1000000) dX12_slip_114 xq1370 (by decide) ?_
      exact J_ireti dX12_slip_117 rfl (xq_i hf)
    · have hf := xin' hc hf
      refine J_iload 0 dX12_slip_89 rfl ?_
      refine J_if_eq (tgt := 114) dX12_slip_91 (by decide) (fun hc => ?_) (fun hc => ?_)
      · have hf := xip hc hf
        refine J_ldcw (v := 1000000) dX12_slip_114 xq1370 (by decide) ?_
        exact J_ireti dX12_slip_117 rfl (xq_i hf)
      · have hf := xin' hc hf
        refine J_aload_n 1 dX12_slip_94 rfl rfl ?_
        refine J_getRl (j := 24) xcf12 dX12_slip_95 kO81 (Or.inl xq1044) (by decide) (by decide) rf_81_24 ?_
        refine J_iload_n 4 dX12_slip_98 rfl rfl ?_
        obtain ⟨hg, hf⟩ := xgd_e hf
        refine J_iald dX12_slip_99 (xK_r1 kO97) kO97 hg nA97 ?_
        refine J_aload_n 1 dX12_slip_100 rfl rfl ?_
        refine J_getRl (j := 25) xcf12 dX12_slip_101 kO81 (Or.inl xq1045) (by decide) (by decide) rf_81_25 ?_
        refine J_iload 5 dX12_slip_104 rfl ?_
        obtain ⟨hg, hf⟩ := xgd_e hf
        refine J_iald dX12_slip_106 (xK_r1 kO98) kO98 hg nA98 ?_
        refine J_ic_ne (tgt := 114) dX12_slip_107 (by decide) (fun hc => ?_) (fun hc => ?_)
        · have hf := xip hc hf
          refine J_iconst dX12_slip_110 (by decide) ?_
          refine J_goto (tgt := 117) dX12_slip_111 (by decide) ?_
          exact J_ireti dX12_slip_117 rfl (xq_i hf)
        · have hf := xin' hc hf
          refine J_ldcw (v := 1000000) dX12_slip_114 xq1370 (by decide) ?_
          exact J_ireti dX12_slip_117 rfl (xq_i hf)
  · have hf := xin' hc0 hf
    refine J_by (c := l1 = 1) (fun hc1 => ?_) (fun hc1 => ?_)
    · have hf := xip hc1 hf
      refine J_tswIn (tgt := 118) dX12_slip_42 1 hc1 (by decide) (by decide) rfl (by decide) ?_
      refine J_iload 6 dX12_slip_118 rfl ?_
      refine J_if_eq (tgt := 164) dX12_slip_120 (by decide) (fun hc => ?_) (fun hc => ?_)
      · have hf := xip hc hf
        refine J_ldcw (v := 1000000) dX12_slip_164 xq1370 (by decide) ?_
        exact J_ireti dX12_slip_167 rfl (xq_i hf)
      · have hf := xin' hc hf
        refine J_iload 0 dX12_slip_123 rfl ?_
        refine J_if_eq (tgt := 164) dX12_slip_125 (by decide) (fun hc => ?_) (fun hc => ?_)
        · have hf := xip hc hf
          refine J_ldcw (v := 1000000) dX12_slip_164 xq1370 (by decide) ?_
          exact J_ireti dX12_slip_167 rfl (xq_i hf)
        · have hf := xin' hc hf
          refine J_aload_n 1 dX12_slip_128 rfl rfl ?_
          refine J_getRl (j := 24) xcf12 dX12_slip_129 kO81 (Or.inl xq1044) (by decide) (by decide) rf_81_24 ?_
          refine J_iload_n 4 dX12_slip_132 rfl rfl ?_
          obtain ⟨hg, hf⟩ := xgd_e hf
          refine J_iald dX12_slip_133 (xK_r1 kO97) kO97 hg nA97 ?_
          refine J_aload_n 1 dX12_slip_134 rfl rfl ?_
          refine J_getRl (j := 25) xcf12 dX12_slip_135 kO81 (Or.inl xq1045) (by decide) (by decide) rf_81_25 ?_
          refine J_iload 5 dX12_slip_138 rfl ?_
          obtain ⟨hg, hf⟩ := xgd_e hf
          refine J_iald dX12_slip_140 (xK_r1 kO98) kO98 hg nA98 ?_
          refine J_ic_eq (tgt := 164) dX12_slip_141 (by decide) (fun hc => ?_) (fun hc => ?_)
          · have hf := xip hc hf
            refine J_ldcw (v := 1000000) dX12_slip_164 xq1370 (by decide) ?_
            exact J_ireti dX12_slip_167 rfl (xq_i hf)
          · have hf := xin' hc hf
            refine J_aload_n 1 dX12_slip_144 rfl rfl ?_
            refine J_aload_n 1 dX12_slip_145 rfl rfl ?_
            refine J_getRl (j := 24) xcf12 dX12_slip_146 kO81 (Or.inl xq1044) (by decide) (by decide) rf_81_24 ?_
            refine J_iload_n 4 dX12_slip_149 rfl rfl ?_
            obtain ⟨hg, hf⟩ := xgd_e hf
            refine J_iald dX12_slip_150 (xK_r1 kO97) kO97 hg nA97 ?_
            refine J_aload_n 1 dX12_slip_151 rfl rfl ?_
            refine J_getRl (j := 25) xcf12 dX12_slip_152 kO81 (Or.inl xq1045) (by decide) (by decide) rf_81_25 ?_
            refine J_iload 5 dX12_slip_155 rfl ?_
            obtain ⟨hg, hf⟩ := xgd_e hf
            refine J_iald dX12_slip_157 (xK_r1 kO98) kO98 hg nA98 ?_
            obtain ⟨r1, hq, hf⟩ := xc1_e hf
            refine J_cVi (Mc := mX12_swapPrice) [xI (h 97 l3), xI (h 98 l4)] dX12_slip_158 (fc_Md_swapPrice.fit ⟨xbl rfl, xbl rfl⟩) rfl ⟨Or.inl xq1375, xq1377, xq101⟩ kO81 (ci := 12) rfl rfl (xbl rfl) (xbl rfl) (jm_Md_swapPrice  hq) ?_
            refine J_goto (tgt := 167) dX12_slip_161 (by decide) ?_
            exact J_ireti dX12_slip_167 rfl (xq_i hf)
    · have hf := xin' hc1 hf
      refine J_by (c := l1 = 2) (fun hc2 => ?_) (fun hc2 => ?_)
      · have hf := xip hc2 hf
        refine J_tswIn (tgt := 168) dX12_slip_42 2 hc2 (by decide) (by decide) rfl (by decide) ?_
        refine J_aload_n 1 dX12_slip_168 rfl rfl ?_
        refine J_iconst dX12_slip_169 (by decide) ?_
        obtain ⟨h2, eh2, hf⟩ := xlet_e hf
        refine J_putI (j := 84) xcf12 dX12_slip_170 (xK_rg kO81) kO81 (Or.inl xq1104) (by decide) (by decide) eh2 ?_
        refine J_iload 6 dX12_slip_173 rfl ?_
        refine J_if_eq (tgt := 191) dX12_slip_175 (by decide) (fun hc => ?_) (fun hc => ?_)
        · have hf := xip hc hf
          refine J_ldcw (v := 1000000) dX12_slip_191 xq1370 (by decide) ?_
          exact J_ireti dX12_slip_194 rfl (xq_i hf)
        · have hf := xin' hc hf
          refine J_aload_n 1 dX12_slip_178 rfl rfl ?_
          refine J_aload_n 1 dX12_slip_179 rfl rfl ?_
          refine J_getRl (j := 24) xcf12 dX12_slip_180 kO81 (Or.inl xq1044) (by decide) (by decide) rf_81_24 ?_
          refine J_iload_n 4 dX12_slip_183 rfl rfl ?_
          obtain ⟨hg, hf⟩ := xgd_e hf
          refine J_iald dX12_slip_184 (xK_r1 kO97) kO97 hg nA97 ?_
          obtain ⟨r3, hq, hf⟩ := xc1_e hf
          refine J_cVi (Mc := mX12_leftPrice) [xI (h2 97 l3)] dX12_slip_185 (fc_Md_leftPrice.fit ⟨xbl rfl, xbl rfl⟩) rfl ⟨Or.inl xq1379, xq1381, xq102⟩ kO81 (ci := 12) rfl rfl (xbl rfl) (xbl rfl) (jm_Md_leftPrice  hq) ?_
          refine J_goto (tgt := 194) dX12_slip_188 (by decide) ?_
          exact J_ireti dX12_slip_194 rfl (xq_i hf)
      · have hf := xin' hc2 hf
        refine J_by (c := l1 = 3) (fun hc3 => ?_) (fun hc3 => ?_)
        · have hf := xip hc3 hf
          refine J_tswIn (tgt := 195) dX12_slip_42 3 hc3 (by decide) (by decide) rfl (by decide) ?_
          refine J_aload_n 1 dX12_slip_195 rfl rfl ?_
          refine J_iconst dX12_slip_196 (by decide) ?_
          obtain ⟨h4, eh4, hf⟩ := xlet_e hf
          refine J_putI (j := 83) xcf12 dX12_slip_197 (xK_rg kO81) kO81 (Or.inl xq1103) (by decide) (by decide) eh4 ?_
          refine J_iload 0 dX12_slip_200 rfl ?_
          refine J_if_eq (tgt := 219) dX12_slip_202 (by decide) (fun hc => ?_) (fun hc => ?_)
          · have hf := xip hc hf
            refine J_ldcw (v := 1000000) dX12_slip_219 xq1370 (by decide) ?_
            exact J_ireti dX12_slip_222 rfl (xq_i hf)
          · have hf := xin' hc hf
            refine J_aload_n 1 dX12_slip_205 rfl rfl ?_
            refine J_aload_n 1 dX12_slip_206 rfl rfl ?_
            refine J_getRl (j := 25) xcf12 dX12_slip_207 kO81 (Or.inl xq1045) (by decide) (by decide) rf_81_25 ?_
            refine J_iload 5 dX12_slip_210 rfl ?_
            obtain ⟨hg, hf⟩ := xgd_e hf
            refine J_iald dX12_slip_212 (xK_r1 kO98) kO98 hg nA98 ?_
            obtain ⟨r5, hq, hf⟩ := xc1_e hf
            refine J_cVi (Mc := mX12_putPrice) [xI (h4 98 l4)] dX12_slip_213 (fc_Md_putPrice.fit ⟨xbl rfl, xbl rfl⟩) rfl ⟨Or.inl xq1383, xq1385, xq103⟩ kO81 (ci := 12) rfl rfl (xbl rfl) (xbl rfl) (jm_Md_putPrice  hq) ?_
            refine J_goto (tgt := 222) dX12_slip_216 (by decide) ?_
            exact J_ireti dX12_slip_222 rfl (xq_i hf)
        · have hf := xin' hc3 hf
          refine J_by (c := l1 = 4) (fun hc4 => ?_) (fun hc4 => ?_)
          · have hf := xip hc4 hf
            refine J_tswIn (tgt := 223) dX12_slip_42 4 hc4 (by decide) (by decide) rfl (by decide) ?_
            refine J_aload_n 1 dX12_slip_223 rfl rfl ?_
            refine J_iconst dX12_slip_224 (by decide) ?_
            obtain ⟨h6, eh6, hf⟩ := xlet_e hf
            refine J_putI (j := 83) xcf12 dX12_slip_225 (xK_rg kO81) kO81 (Or.inl xq1103) (by decide) (by decide) eh6 ?_
            refine J_aload_n 1 dX12_slip_228 rfl rfl ?_
            refine J_iconst dX12_slip_229 (by decide) ?_
            obtain ⟨h7, eh7, hf⟩ := xlet_e hf
            refine J_putI (j := 84) xcf12 dX12_slip_230 (xK_rg kO81) kO81 (Or.inl xq1104) (by decide) (by decide) eh7 ?_
            refine J_iload_n 4 dX12_slip_233 rfl rfl ?_
            refine J_iconst dX12_slip_234 (by decide) ?_
            refine J_iadd dX12_slip_235 ?_
            refine J_aload_n 1 dX12_slip_236 rfl rfl ?_
            refine J_getI (j := 22) xcf12 dX12_slip_237 (xK_rg kO81) kO81 (Or.inl xq1042) (by decide) (by decide) ?_
            refine J_ic_ge (tgt := 316) dX12_slip_240 (by decide) (fun hc => ?_) (fun hc => ?_)
            · have hf := xip hc hf
              refine J_iload 5 dX12_slip_243 rfl ?_
              refine J_iconst dX12_slip_245 (by decide) ?_
              refine J_iadd dX12_slip_246 ?_
              refine J_aload_n 1 dX12_slip_247 rfl rfl ?_
              refine J_getI (j := 23) xcf12 dX12_slip_248 (xK_rg kO81) kO81 (Or.inl xq1043) (by decide) (by decide) ?_
              refine J_ic_ge (tgt := 316) dX12_slip_251 (by decide) (fun hc => ?_) (fun hc => ?_)
              · have hf := xip hc hf
                refine J_aload_n 1 dX12_slip_254 rfl rfl ?_
                refine J_getRl (j := 24) xcf12 dX12_slip_255 kO81 (Or.inl xq1044) (by decide) (by decide) rf_81_24 ?_
                refine J_iload_n 4 dX12_slip_258 rfl rfl ?_
                obtain ⟨hg, hf⟩ := xgd_e hf
                refine J_iald dX12_slip_259 (xK_r1 kO97) kO97 hg nA97 ?_
                refine J_aload_n 1 dX12_slip_260 rfl rfl ?_
                refine J_getRl (j := 24) xcf12 dX12_slip_261 kO81 (Or.inl xq1044) (by decide) (by decide) rf_81_24 ?_
                refine J_iload_n 4 dX12_slip_264 rfl rfl ?_
                refine J_iconst dX12_slip_265 (by decide) ?_
                refine J_iadd dX12_slip_266 ?_
                obtain ⟨hg, hf⟩ := xgd_e hf
                refine J_iald dX12_slip_267 (xK_r1 kO97) kO97 hg nA97 ?_
                refine J_ic_eq (tgt := 316) dX12_slip_268 (by decide) (fun hc => ?_) (fun hc => ?_)
                · have hf := xip hc hf
                  refine J_ldcw (v := 1000000) dX12_slip_316 xq1370 (by decide) ?_
                  exact J_ireti dX12_slip_319 rfl (xq_i hf)
                · have hf := xin' hc hf
                  refine J_aload_n 1 dX12_slip_271 rfl rfl ?_
                  refine J_getRl (j := 24) xcf12 dX12_slip_272 kO81 (Or.inl xq1044) (by decide) (by decide) rf_81_24 ?_
                  refine J_iload_n 4 dX12_slip_275 rfl rfl ?_
                  obtain ⟨hg, hf⟩ := xgd_e hf
                  refine J_iald dX12_slip_276 (xK_r1 kO97) kO97 hg nA97 ?_
                  refine J_aload_n 1 dX12_slip_277 rfl rfl ?_
                  refine J_getRl (j := 25) xcf12 dX12_slip_278 kO81 (Or.inl xq1045) (by decide) (by decide) rf_81_25 ?_
                  refine J_iload 5 dX12_slip_281 rfl ?_
                  refine J_iconst dX12_slip_283 (by decide) ?_
                  refine J_iadd dX12_slip_284 ?_
                  obtain ⟨hg, hf⟩ := xgd_e hf
                  refine J_iald dX12_slip_285 (xK_r1 kO98) kO98 hg nA98 ?_
                  refine J_ic_ne (tgt := 316) dX12_slip_286 (by decide) (fun hc => ?_) (fun hc => ?_)
                  · have hf := xip hc hf
                    refine J_aload_n 1 dX12_slip_289 rfl rfl ?_
                    refine J_getRl (j := 24) xcf12 dX12_slip_290 kO81 (Or.inl xq1044) (by decide) (by decide) rf_81_24 ?_
                    refine J_iload_n 4 dX12_slip_293 rfl rfl ?_
                    refine J_iconst dX12_slip_294 (by decide) ?_
                    refine J_iadd dX12_slip_295 ?_
                    obtain ⟨hg, hf⟩ := xgd_e hf
                    refine J_iald dX12_slip_296 (xK_r1 kO97) kO97 hg nA97 ?_
                    refine J_aload_n 1 dX12_slip_297 rfl rfl ?_
                    refine J_getRl (j := 25) xcf12 dX12_slip_298 kO81 (Or.inl xq1045) (by decide) (by decide) rf_81_25 ?_
                    refine J_iload 5 dX12_slip_301 rfl ?_
                    obtain ⟨hg, hf⟩ := xgd_e hf
                    refine J_iald dX12_slip_303 (xK_r1 kO98) kO98 hg nA98 ?_
                    refine J_ic_ne (tgt := 316) dX12_slip_304 (by decide) (fun hc => ?_) (fun hc => ?_)
                    · have hf := xip hc hf
                      refine J_aload_n 1 dX12_slip_307 rfl rfl ?_
                      refine J_getRl (j := 9) xcf12 dX12_slip_308 kO81 (Or.inl xq1029) (by decide) (by decide) rf_81_9 ?_
                      refine J_iconst dX12_slip_311 (by decide) ?_
                      obtain ⟨hg, hf⟩ := xgd_e hf
                      refine J_iald dX12_slip_312 (xK_r1 kO88) kO88 hg nA88 ?_
                      refine J_goto (tgt := 319) dX12_slip_313 (by decide) ?_
                      exact J_ireti dX12_slip_319 rfl (xq_i hf)
                    · have hf := xin' hc hf
                      refine J_ldcw (v := 1000000) dX12_slip_316 xq1370 (by decide) ?_
                      exact J_ireti dX12_slip_319 rfl (xq_i hf)
                  · have hf := xin' hc hf
                    refine J_ldcw (v := 1000000) dX12_slip_316 xq1370 (by decide) ?_
                    exact J_ireti dX12_slip_319 rfl (xq_i hf)
              · have hf := xin' hc hf
                refine J_ldcw (v := 1000000) dX12_slip_316 xq1370 (by decide) ?_
                exact J_ireti dX12_slip_319 rfl (xq_i hf)
            · have hf := xin' hc hf
              refine J_ldcw (v := 1000000) dX12_slip_316 xq1370 (by decide) ?_
              exact J_ireti dX12_slip_319 rfl (xq_i hf)
          · have hf := xin' hc4 hf
            refine J_by (c := l1 = 5) (fun hc5 => ?_) (fun hc5 => ?_)
            · have hf := xip hc5 hf
              refine J_tswIn (tgt := 320) dX12_slip_42 5 hc5 (by decide) (by decide) rfl (by decide) ?_
              refine J_aload_n 1 dX12_slip_320 rfl rfl ?_
              refine J_iconst dX12_slip_321 (by decide) ?_
              obtain ⟨h8, eh8, hf⟩ := xlet_e hf
              refine J_putI (j := 84) xcf12 dX12_slip_322 (xK_rg kO81) kO81 (Or.inl xq1104) (by decide) (by decide) eh8 ?_
              refine J_iload 6 dX12_slip_325 rfl ?_
              refine J_if_eq (tgt := 384) dX12_slip_327 (by decide) (fun hc => ?_) (fun hc => ?_)
              · have hf := xip hc hf
                refine J_ldcw (v := 1000000) dX12_slip_384 xq1370 (by decide) ?_
                exact J_ireti dX12_slip_387 rfl (xq_i hf)
              · have hf := xin' hc hf
                refine J_iload 5 dX12_slip_330 rfl ?_
                refine J_iconst dX12_slip_332 (by decide) ?_
                refine J_iadd dX12_slip_333 ?_
                refine J_aload_n 1 dX12_slip_334 rfl rfl ?_
                refine J_getI (j := 23) xcf12 dX12_slip_335 (xK_rg kO81) kO81 (Or.inl xq1043) (by decide) (by decide) ?_
                refine J_ic_ge (tgt := 384) dX12_slip_338 (by decide) (fun hc => ?_) (fun hc => ?_)
                · have hf := xip hc hf
                  refine J_aload_n 1 dX12_slip_341 rfl rfl ?_
                  refine J_getRl (j := 24) xcf12 dX12_slip_342 kO81 (Or.inl xq1044) (by decide) (by decide) rf_81_24 ?_
                  refine J_iload_n 4 dX12_slip_345 rfl rfl ?_
                  obtain ⟨hg, hf⟩ := xgd_e hf
                  refine J_iald dX12_slip_346 (xK_r1 kO97) kO97 hg nA97 ?_
                  refine J_aload_n 1 dX12_slip_347 rfl rfl ?_
                  refine J_getRl (j := 25) xcf12 dX12_slip_348 kO81 (Or.inl xq1045) (by decide) (by decide) rf_81_25 ?_
                  refine J_iload 5 dX12_slip_351 rfl ?_
                  obtain ⟨hg, hf⟩ := xgd_e hf
                  refine J_iald dX12_slip_353 (xK_r1 kO98) kO98 hg nA98 ?_
                  refine J_ic_ne (tgt := 384) dX12_slip_354 (by decide) (fun hc => ?_) (fun hc => ?_)
                  · have hf := xip hc hf
                    refine J_aload_n 1 dX12_slip_357 rfl rfl ?_
                    refine J_getRl (j := 24) xcf12 dX12_slip_358 kO81 (Or.inl xq1044) (by decide) (by decide) rf_81_24 ?_
                    refine J_iload_n 4 dX12_slip_361 rfl rfl ?_
                    obtain ⟨hg, hf⟩ := xgd_e hf
                    refine J_iald dX12_slip_362 (xK_r1 kO97) kO97 hg nA97 ?_
                    refine J_aload_n 1 dX12_slip_363 rfl rfl ?_
                    refine J_getRl (j := 25) xcf12 dX12_slip_364 kO81 (Or.inl xq1045) (by decide) (by decide) rf_81_25 ?_
                    refine J_iload 5 dX12_slip_367 rfl ?_
                    refine J_iconst dX12_slip_369 (by decide) ?_
                    refine J_iadd dX12_slip_370 ?_
                    obtain ⟨hg, hf⟩ := xgd_e hf
                    refine J_iald dX12_slip_371 (xK_r1 kO98) kO98 hg nA98 ?_
                    refine J_ic_ne (tgt := 384) dX12_slip_372 (by decide) (fun hc => ?_) (fun hc => ?_)
                    · have hf := xip hc hf
                      refine J_aload_n 1 dX12_slip_375 rfl rfl ?_
                      refine J_getRl (j := 9) xcf12 dX12_slip_376 kO81 (Or.inl xq1029) (by decide) (by decide) rf_81_9 ?_
                      refine J_iconst dX12_slip_379 (by decide) ?_
                      obtain ⟨hg, hf⟩ := xgd_e hf
                      refine J_iald dX12_slip_380 (xK_r1 kO88) kO88 hg nA88 ?_
                      refine J_goto (tgt := 387) dX12_slip_381 (by decide) ?_
                      exact J_ireti dX12_slip_387 rfl (xq_i hf)
                    · have hf := xin' hc hf
                      refine J_ldcw (v := 1000000) dX12_slip_384 xq1370 (by decide) ?_
                      exact J_ireti dX12_slip_387 rfl (xq_i hf)
                  · have hf := xin' hc hf
                    refine J_ldcw (v := 1000000) dX12_slip_384 xq1370 (by decide) ?_
                    exact J_ireti dX12_slip_387 rfl (xq_i hf)
                · have hf := xin' hc hf
                  refine J_ldcw (v := 1000000) dX12_slip_384 xq1370 (by decide) ?_
                  exact J_ireti dX12_slip_387 rfl (xq_i hf)
            · have hf := xin' hc5 hf
              refine J_by (c := l1 = 6) (fun hc6 => ?_) (fun hc6 => ?_)
              · have hf := xip hc6 hf
                refine J_tswIn (tgt := 388) dX12_slip_42 6 hc6 (by decide) (by decide) rfl (by decide) ?_
                refine J_aload_n 1 dX12_slip_388 rfl rfl ?_
                refine J_iconst dX12_slip_389 (by decide) ?_
                obtain ⟨h9, eh9, hf⟩ := xlet_e hf
                refine J_putI (j := 83) xcf12 dX12_slip_390 (xK_rg kO81) kO81 (Or.inl xq1103) (by decide) (by decide) eh9 ?_
                refine J_iload_n 4 dX12_slip_393 rfl rfl ?_
                refine J_iconst dX12_slip_394 (by decide) ?_
                refine J_iadd dX12_slip_395 ?_
                refine J_aload_n 1 dX12_slip_396 rfl rfl ?_
                refine J_getI (j := 22) xcf12 dX12_slip_397 (xK_rg kO81) kO81 (Or.inl xq1042) (by decide) (by decide) ?_
                refine J_ic_ge (tgt := 451) dX12_slip_400 (by decide) (fun hc => ?_) (fun hc => ?_)
                · have hf := xip hc hf
                  refine J_iload 0 dX12_slip_403 rfl ?_
                  refine J_if_eq (tgt := 451) dX12_slip_405 (by decide) (fun hc => ?_) (fun hc => ?_)
                  · have hf := xip hc hf
                    refine J_ldcw (v := 1000000) dX12_slip_451 xq1370 (by decide) ?_
                    exact J_ireti dX12_slip_454 rfl (xq_i hf)
                  · have hf := xin' hc hf
                    refine J_aload_n 1 dX12_slip_408 rfl rfl ?_
                    refine J_getRl (j := 24) xcf12 dX12_slip_409 kO81 (Or.inl xq1044) (by decide) (by decide) rf_81_24 ?_
                    refine J_iload_n 4 dX12_slip_412 rfl rfl ?_
                    obtain ⟨hg, hf⟩ := xgd_e hf
                    refine J_iald dX12_slip_413 (xK_r1 kO97) kO97 hg nA97 ?_
                    refine J_aload_n 1 dX12_slip_414 rfl rfl ?_
                    refine J_getRl (j := 24) xcf12 dX12_slip_415 kO81 (Or.inl xq1044) (by decide) (by decide) rf_81_24 ?_
                    refine J_iload_n 4 dX12_slip_418 rfl rfl ?_
                    refine J_iconst dX12_slip_419 (by decide) ?_
                    refine J_iadd dX12_slip_420 ?_
                    obtain ⟨hg, hf⟩ := xgd_e hf
                    refine J_iald dX12_slip_421 (xK_r1 kO97) kO97 hg nA97 ?_
                    refine J_ic_ne (tgt := 451) dX12_slip_422 (by decide) (fun hc => ?_) (fun hc => ?_)
                    · have hf := xip hc hf
                      refine J_aload_n 1 dX12_slip_425 rfl rfl ?_
                      refine J_getRl (j := 24) xcf12 dX12_slip_426 kO81 (Or.inl xq1044) (by decide) (by decide) rf_81_24 ?_
                      refine J_iload_n 4 dX12_slip_429 rfl rfl ?_
                      obtain ⟨hg, hf⟩ := xgd_e hf
                      refine J_iald dX12_slip_430 (xK_r1 kO97) kO97 hg nA97 ?_
                      refine J_aload_n 1 dX12_slip_431 rfl rfl ?_
                      refine J_getRl (j := 25) xcf12 dX12_slip_432 kO81 (Or.inl xq1045) (by decide) (by decide) rf_81_25 ?_
                      refine J_iload 5 dX12_slip_435 rfl ?_
                      obtain ⟨hg, hf⟩ := xgd_e hf
                      refine J_iald dX12_slip_437 (xK_r1 kO98) kO98 hg nA98 ?_
                      refine J_ic_ne (tgt := 451) dX12_slip_438 (by decide) (fun hc => ?_) (fun hc => ?_)
                      · have hf := xip hc hf
                        refine J_aload_n 1 dX12_slip_441 rfl rfl ?_
                        refine J_getRl (j := 9) xcf12 dX12_slip_442 kO81 (Or.inl xq1029) (by decide) (by decide) rf_81_9 ?_
                        refine J_bip dX12_slip_445 (by decide) ?_
                        obtain ⟨hg, hf⟩ := xgd_e hf
                        refine J_iald dX12_slip_447 (xK_r1 kO88) kO88 hg nA88 ?_
                        refine J_goto (tgt := 454) dX12_slip_448 (by decide) ?_
                        exact J_ireti dX12_slip_454 rfl (xq_i hf)
                      · have hf := xin' hc hf
                        refine J_ldcw (v := 1000000) dX12_slip_451 xq1370 (by decide) ?_
                        exact J_ireti dX12_slip_454 rfl (xq_i hf)
                    · have hf := xin' hc hf
                      refine J_ldcw (v := 1000000) dX12_slip_451 xq1370 (by decide) ?_
                      exact J_ireti dX12_slip_454 rfl (xq_i hf)
                · have hf := xin' hc hf
                  refine J_ldcw (v := 1000000) dX12_slip_451 xq1370 (by decide) ?_
                  exact J_ireti dX12_slip_454 rfl (xq_i hf)
              · have hf := xin' hc6 hf
                refine J_tswOut (tgt := 455) dX12_slip_42 (by omega) (by decide) ?_
                refine J_aload_n 1 dX12_slip_455 rfl rfl ?_
                refine J_aload_n 1 dX12_slip_456 rfl rfl ?_
                refine J_getRl (j := 17) xcf12 dX12_slip_457 kO81 (Or.inl xq1037) (by decide) (by decide) rf_81_17 ?_
                refine J_iload_n 3 dX12_slip_460 rfl rfl ?_
                obtain ⟨hg, hf⟩ := xgd_e hf
                refine J_iald dX12_slip_461 (xK_r1 kO92) kO92 hg nA92 ?_
                obtain ⟨h10, eh10, hf⟩ := xlet_e hf
                refine J_putI (j := 83) xcf12 dX12_slip_462 (xK_rg kO81) kO81 (Or.inl xq1103) (by decide) (by decide) eh10 ?_
                refine J_aload_n 1 dX12_slip_465 rfl rfl ?_
                refine J_aload_n 1 dX12_slip_466 rfl rfl ?_
                refine J_getRl (j := 19) xcf12 dX12_slip_467 kO81 (Or.inl xq1039) (by decide) (by decide) rf_81_19 ?_
                refine J_iload_n 3 dX12_slip_470 rfl rfl ?_
                obtain ⟨hg, hf⟩ := xgd_e hf
                refine J_iald dX12_slip_471 (xK_r1 kO94) kO94 hg nA94 ?_
                obtain ⟨h11, eh11, hf⟩ := xlet_e hf
                refine J_putI (j := 84) xcf12 dX12_slip_472 (xK_rg kO81) kO81 (Or.inl xq1104) (by decide) (by decide) eh11 ?_
                refine J_aload_n 1 dX12_slip_475 rfl rfl ?_
                refine J_iload_n 3 dX12_slip_476 rfl rfl ?_
                refine J_iload_n 4 dX12_slip_477 rfl rfl ?_
                refine J_iload 5 dX12_slip_478 rfl ?_
                obtain ⟨r12, hq, hf⟩ := xc1_e hf
                refine J_cVi (Mc := mX12_hasSound) [xI l2, xI l3, xI l4] dX12_slip_480 (fc_Md_hasSound.fit ⟨xbl rfl, xbl rfl⟩) rfl ⟨Or.inl xq1387, xq1389, xq104⟩ kO81 (ci := 12) rfl rfl (xbl rfl) (xbl rfl) (jm_Md_hasSound  hq) ?_
                refine J_if_eq (tgt := 495) dX12_slip_483 (by decide) (fun hc => ?_) (fun hc => ?_)
                · have hf := xip hc hf
                  refine J_ldcw (v := 1000000) dX12_slip_495 xq1370 (by decide) ?_
                  exact J_ireti dX12_slip_498 rfl (xq_i hf)
                · have hf := xin' hc hf
                  refine J_aload_n 1 dX12_slip_486 rfl rfl ?_
                  refine J_getRl (j := 21) xcf12 dX12_slip_487 kO81 (Or.inl xq1041) (by decide) (by decide) rf_81_21 ?_
                  refine J_iload_n 3 dX12_slip_490 rfl rfl ?_
                  obtain ⟨hg, hf⟩ := xgd_e hf
                  refine J_iald dX12_slip_491 (xK_r1 kO96) kO96 hg nA96 ?_
                  refine J_goto (tgt := 498) dX12_slip_492 (by decide) ?_
                  exact J_ireti dX12_slip_498 rfl (xq_i hf)
theorem j_Md_slip_23 {l1 : Int} {l2 : Int} {l3 : Int} {l4 : Int} {s0 : Int} {h : xH} {r0 : Int} {h0 : xH}  (hf : f_Md_slip_23 l1 l2 l3 l4 s0 h = some (r0, h0))  : J mX12_slip true 0 0 23 xKn [(0, xR 81), (1, xI l1), (2, xI l2), (3, xI l3), (4, xI l4)] [xI s0] h (xEq (some r0) h0) := by
  unfold f_Md_slip_23 at hf
  refine J_istore (ls' := [(5, xI s0), (0, xR 81), (1, xI l1), (2, xI l2), (3, xI l3), (4, xI l4)]) dX12_slip_23 (by decide) rfl rfl ?_
  refine J_iload 5 dX12_slip_25 rfl ?_
  refine J_aload_n 1 dX12_slip_27 rfl rfl ?_
  refine J_getI (j := 23) xcf12 dX12_slip_28 (xK_rg kO81) kO81 (Or.inl xq1043) (by decide) (by decide) ?_
  refine J_ic_ge (tgt := 38) dX12_slip_31 (by decide) (fun hc => ?_) (fun hc => ?_)
  · have hf := xip hc hf
    refine J_iconst dX12_slip_34 (by decide) ?_
    refine J_goto (tgt := 39) dX12_slip_35 (by decide) ?_
    refine J_sub [1, 2, 3, 4, 5, 0] rfl ?_
    exact j_Md_slip_39  hf
  · have hf := xin' hc hf
    refine J_iconst dX12_slip_38 (by decide) ?_
    refine J_sub [1, 2, 3, 4, 5, 0] rfl ?_
    exact j_Md_slip_39  hf
theorem jm_Md_slip {l1 : Int} {l2 : Int} {l3 : Int} {l4 : Int} {h : xH} {r0 : Int} {h0 : xH}  (hf : f_Md_slip l1 l2 l3 l4 h = some (r0, h0)) : J mX12_slip true 0 0 0 xKn (xen 0 [xR 81, xI l1, xI l2, xI l3, xI l4]) [] h (xEq (some r0) h0) := by
  unfold f_Md_slip at hf
  refine J_cong (ls2 := [(0, xR 81), (1, xI l1), (2, xI l2), (3, xI l3), (4, xI l4)]) (st2 := []) rfl rfl ?_
  refine J_aload_n 0 dX12_slip_0 rfl rfl ?_
  refine J_iconst dX12_slip_1 (by decide) ?_
  obtain ⟨h1, eh1, hf⟩ := xlet_e hf
  refine J_putI (j := 83) xcf12 dX12_slip_2 (xK_rg kO81) kO81 (Or.inl xq1103) (by decide) (by decide) eh1 ?_
  refine J_aload_n 0 dX12_slip_5 rfl rfl ?_
  refine J_iconst dX12_slip_6 (by decide) ?_
  obtain ⟨h2, eh2, hf⟩ := xlet_e hf
  refine J_putI (j := 84) xcf12 dX12_slip_7 (xK_rg kO81) kO81 (Or.inl xq1104) (by decide) (by decide) eh2 ?_
  refine J_iload_n 3 dX12_slip_10 rfl rfl ?_
  refine J_aload_n 0 dX12_slip_11 rfl rfl ?_
  refine J_getI (j := 22) xcf12 dX12_slip_12 (xK_rg kO81) kO81 (Or.inl xq1042) (by decide) (by decide) ?_
  refine J_ic_ge (tgt := 22) dX12_slip_15 (by decide) (fun hc => ?_) (fun hc => ?_)
  · have hf := xip hc hf
    refine J_iconst dX12_slip_18 (by decide) ?_
    refine J_goto (tgt := 23) dX12_slip_19 (by decide) ?_
    exact j_Md_slip_23  hf
  · have hf := xin' hc hf
    refine J_iconst dX12_slip_22 (by decide) ?_
    exact j_Md_slip_23  hf
theorem dX12_sums_0 : decode cX12_sums 0 = .ok (.aload_n 0, 1) := by decide +kernel
theorem dX12_sums_1 : decode cX12_sums 1 = .ok (.getfield 228, 3) := by decide +kernel
theorem dX12_sums_4 : decode cX12_sums 4 = .ok (.istore_n 1, 1) := by decide +kernel
theorem dX12_sums_5 : decode cX12_sums 5 = .ok (.iload_n 1, 1) := by decide +kernel
theorem dX12_sums_6 : decode cX12_sums 6 = .ok (.ifCond .lt 138, 3) := by decide +kernel
theorem dX12_sums_9 : decode cX12_sums 9 = .ok (.aload_n 0, 1) := by decide +kernel
theorem dX12_sums_10 : decode cX12_sums 10 = .ok (.getfield 231, 3) := by decide +kernel
theorem dX12_sums_13 : decode cX12_sums 13 = .ok (.istore_n 2, 1) := by decide +kernel
theorem dX12_sums_14 : decode cX12_sums 14 = .ok (.iload_n 2, 1) := by decide +kernel
theorem dX12_sums_15 : decode cX12_sums 15 = .ok (.ifCond .lt 123, 3) := by decide +kernel
theorem dX12_sums_18 : decode cX12_sums 18 = .ok (.iload_n 1, 1) := by decide +kernel
theorem dX12_sums_19 : decode cX12_sums 19 = .ok (.aload_n 0, 1) := by decide +kernel
theorem dX12_sums_20 : decode cX12_sums 20 = .ok (.getfield 228, 3) := by decide +kernel
theorem dX12_sums_23 : decode cX12_sums 23 = .ok (.if_icmp .ne 15, 3) := by decide +kernel
theorem dX12_sums_26 : decode cX12_sums 26 = .ok (.iload_n 2, 1) := by decide +kernel
theorem dX12_sums_27 : decode cX12_sums 27 = .ok (.aload_n 0, 1) := by decide +kernel
theorem dX12_sums_28 : decode cX12_sums 28 = .ok (.getfield 231, 3) := by decide +kernel
theorem dX12_sums_31 : decode cX12_sums 31 = .ok (.if_icmp .ne 7, 3) := by decide +kernel
theorem dX12_sums_34 : decode cX12_sums 34 = .ok (.iconst 0, 1) := by decide +kernel
theorem dX12_sums_35 : decode cX12_sums 35 = .ok (.goto 6, 3) := by decide +kernel
theorem dX12_sums_38 : decode cX12_sums 38 = .ok (.ldc_w 302, 3) := by decide +kernel
theorem dX12_sums_41 : decode cX12_sums 41 = .ok (.istore_n 3, 1) := by decide +kernel
theorem dX12_sums_42 : decode cX12_sums 42 = .ok (.iconst 0, 1) := by decide +kernel
theorem dX12_sums_43 : decode cX12_sums 43 = .ok (.istore 4, 2) := by decide +kernel
theorem dX12_sums_45 : decode cX12_sums 45 = .ok (.iload 4, 2) := by decide +kernel
theorem dX12_sums_47 : decode cX12_sums 47 = .ok (.bipush 7, 2) := by decide +kernel
theorem dX12_sums_49 : decode cX12_sums 49 = .ok (.aload_n 0, 1) := by decide +kernel
theorem dX12_sums_50 : decode cX12_sums 50 = .ok (.getfield 266, 3) := by decide +kernel
theorem dX12_sums_53 : decode cX12_sums 53 = .ok (.iadd, 1) := by decide +kernel
theorem dX12_sums_54 : decode cX12_sums 54 = .ok (.if_icmp .ge 66, 3) := by decide +kernel
theorem dX12_sums_57 : decode cX12_sums 57 = .ok (.aload_n 0, 1) := by decide +kernel
theorem dX12_sums_58 : decode cX12_sums 58 = .ok (.iload 4, 2) := by decide +kernel
theorem dX12_sums_60 : decode cX12_sums 60 = .ok (.bipush 7, 2) := by decide +kernel
theorem dX12_sums_62 : decode cX12_sums 62 = .ok (.invokestatic 250, 3) := by decide +kernel
theorem dX12_sums_65 : decode cX12_sums 65 = .ok (.iload 4, 2) := by decide +kernel
theorem dX12_sums_67 : decode cX12_sums 67 = .ok (.bipush 7, 2) := by decide +kernel
theorem dX12_sums_69 : decode cX12_sums 69 = .ok (.isub, 1) := by decide +kernel
theorem dX12_sums_70 : decode cX12_sums 70 = .ok (.iload_n 1, 1) := by decide +kernel
theorem dX12_sums_71 : decode cX12_sums 71 = .ok (.iload_n 2, 1) := by decide +kernel
theorem dX12_sums_72 : decode cX12_sums 72 = .ok (.invokevirtual 315, 3) := by decide +kernel
theorem dX12_sums_75 : decode cX12_sums 75 = .ok (.istore 5, 2) := by decide +kernel
theorem dX12_sums_77 : decode cX12_sums 77 = .ok (.iload 5, 2) := by decide +kernel
theorem dX12_sums_79 : decode cX12_sums 79 = .ok (.ldc_w 302, 3) := by decide +kernel
theorem dX12_sums_82 : decode cX12_sums 82 = .ok (.if_icmp .ge 32, 3) := by decide +kernel
theorem dX12_sums_85 : decode cX12_sums 85 = .ok (.iload_n 3, 1) := by decide +kernel
theorem dX12_sums_86 : decode cX12_sums 86 = .ok (.iload 5, 2) := by decide +kernel
theorem dX12_sums_88 : decode cX12_sums 88 = .ok (.aload_n 0, 1) := by decide +kernel
theorem dX12_sums_89 : decode cX12_sums 89 = .ok (.getfield 68, 3) := by decide +kernel
theorem dX12_sums_92 : decode cX12_sums 92 = .ok (.bipush 13, 2) := by decide +kernel
theorem dX12_sums_94 : decode cX12_sums 94 = .ok (.iload_n 1, 1) := by decide +kernel
theorem dX12_sums_95 : decode cX12_sums 95 = .ok (.aload_n 0, 1) := by decide +kernel
theorem dX12_sums_96 : decode cX12_sums 96 = .ok (.getfield 296, 3) := by decide +kernel
theorem dX12_sums_99 : decode cX12_sums 99 = .ok (.iadd, 1) := by decide +kernel
theorem dX12_sums_100 : decode cX12_sums 100 = .ok (.imul, 1) := by decide +kernel
theorem dX12_sums_101 : decode cX12_sums 101 = .ok (.iload_n 2, 1) := by decide +kernel
theorem dX12_sums_102 : decode cX12_sums 102 = .ok (.iadd, 1) := by decide +kernel
theorem dX12_sums_103 : decode cX12_sums 103 = .ok (.aload_n 0, 1) := by decide +kernel
theorem dX12_sums_104 : decode cX12_sums 104 = .ok (.getfield 299, 3) := by decide +kernel
theorem dX12_sums_107 : decode cX12_sums 107 = .ok (.iadd, 1) := by decide +kernel
theorem dX12_sums_108 : decode cX12_sums 108 = .ok (.iaload, 1) := by decide +kernel
theorem dX12_sums_109 : decode cX12_sums 109 = .ok (.iadd, 1) := by decide +kernel
theorem dX12_sums_110 : decode cX12_sums 110 = .ok (.invokestatic 250, 3) := by decide +kernel
theorem dX12_sums_113 : decode cX12_sums 113 = .ok (.istore_n 3, 1) := by decide +kernel
theorem dX12_sums_114 : decode cX12_sums 114 = .ok (.iinc 4 1, 3) := by decide +kernel
theorem dX12_sums_117 : decode cX12_sums 117 = .ok (.goto (-72), 3) := by decide +kernel
theorem dX12_sums_120 : decode cX12_sums 120 = .ok (.aload_n 0, 1) := by decide +kernel
theorem dX12_sums_121 : decode cX12_sums 121 = .ok (.getfield 68, 3) := by decide +kernel
theorem dX12_sums_124 : decode cX12_sums 124 = .ok (.bipush 13, 2) := by decide +kernel
theorem dX12_sums_126 : decode cX12_sums 126 = .ok (.iload_n 1, 1) := by decide +kernel
theorem dX12_sums_127 : decode cX12_sums 127 = .ok (.imul, 1) := by decide +kernel
theorem dX12_sums_128 : decode cX12_sums 128 = .ok (.iload_n 2, 1) := by decide +kernel
theorem dX12_sums_129 : decode cX12_sums 129 = .ok (.iadd, 1) := by decide +kernel
theorem dX12_sums_130 : decode cX12_sums 130 = .ok (.iload_n 3, 1) := by decide +kernel
theorem dX12_sums_131 : decode cX12_sums 131 = .ok (.iastore, 1) := by decide +kernel
theorem dX12_sums_132 : decode cX12_sums 132 = .ok (.iinc 2 (-1), 3) := by decide +kernel
theorem dX12_sums_135 : decode cX12_sums 135 = .ok (.goto (-121), 3) := by decide +kernel
theorem dX12_sums_138 : decode cX12_sums 138 = .ok (.iinc 1 (-1), 3) := by decide +kernel
theorem dX12_sums_141 : decode cX12_sums 141 = .ok (.goto (-136), 3) := by decide +kernel
theorem dX12_sums_144 : decode cX12_sums 144 = .ok (.return_, 1) := by decide +kernel
theorem j_Md_sums_144  {h : xH} {h0 : xH}  (hf : f_Md_sums_144 h = some h0)  : J mX12_sums true 0 0 144 xKn [] [] h (xEq none h0) := by
  unfold f_Md_sums_144 at hf
  exact J_rt dX12_sums_144 rfl (xq_v hf)
theorem j_Md_sums_138 {l1 : Int} {h : xH} {x : ((Int × xH) ⊕ xH)} {Q : xQ}  (hf : f_Md_sums_138 l1 h = some x) (kb : ∀ (l1' : Int) (h' : xH), x = Sum.inl (l1', h') → J mX12_sums true 0 0 5 xKn [(0, xR 81), (1, xI l1')] [] h' Q) (ke : ∀  (h' : xH), x = (Sum.inr h') → J mX12_sums true 0 0 144 xKn [] [] h' Q) : J mX12_sums true 0 0 138 xKn [(0, xR 81), (1, xI l1)] [] h Q := by
  unfold f_Md_sums_138 at hf
  obtain ⟨x1, ex1, hf⟩ := xlet_e hf
  refine J_iinc (ls' := [(1, xI x1), (0, xR 81)]) 1 dX12_sums_138 rfl (by decide) ex1 rfl ?_
  refine J_goto (tgt := 5) dX12_sums_141 (by decide) ?_
  refine J_sub [1, 0] rfl ?_
  exact kb _ _ (xinl hf)
theorem j_Md_sums_120 {l1 : Int} {l2 : Int} {l3 : Int} {h : xH} {x : ((Int × xH) ⊕ xH)} {Q : xQ}  (hf : f_Md_sums_120 l1 l2 l3 h = some x) (kb : ∀ (l2' : Int) (h' : xH), x = Sum.inl (l2', h') → J mX12_sums true 0 0 14 xKn [(0, xR 81), (1, xI l1), (2, xI l2')] [] h' Q) (ke : ∀  (h' : xH), x = (Sum.inr h') → J mX12_sums true 0 0 138 xKn [(0, xR 81), (1, xI l1)] [] h' Q) : J mX12_sums true 0 0 120 xKn [(0, xR 81), (1, xI l1), (2, xI l2), (3, xI l3)] [] h Q := by
  unfold f_Md_sums_120 at hf
  refine J_aload_n 0 dX12_sums_120 rfl rfl ?_
  refine J_getRl (j := 26) xcf12 dX12_sums_121 kO81 (Or.inl xq1046) (by decide) (by decide) rf_81_26 ?_
  refine J_bip dX12_sums_124 (by decide) ?_
  refine J_iload_n 1 dX12_sums_126 rfl rfl ?_
  refine J_imul dX12_sums_127 ?_
  refine J_iload_n 2 dX12_sums_128 rfl rfl ?_
  refine J_iadd dX12_sums_129 ?_
  refine J_iload_n 3 dX12_sums_130 rfl rfl ?_
  obtain ⟨hg, hf⟩ := xgd_e hf
  obtain ⟨h1, eh1, hf⟩ := xlet_e hf
  refine J_iast dX12_sums_131 (xK_r1 kO99) kO99 hg nA99 eh1 ?_
  obtain ⟨x2, ex2, hf⟩ := xlet_e hf
  refine J_iinc (ls' := [(2, xI x2), (0, xR 81), (1, xI l1), (3, xI l3)]) 2 dX12_sums_132 rfl (by decide) ex2 rfl ?_
  refine J_goto (tgt := 14) dX12_sums_135 (by decide) ?_
  refine J_sub [1, 2, 0] rfl ?_
  exact kb _ _ (xinl hf)
theorem j_Md_sums_114 {l1 : Int} {l2 : Int} {l3 : Int} {l4 : Int} {h : xH} {x : ((Int × Int × xH) ⊕ (Int × xH))} {Q : xQ}  (hf : f_Md_sums_114 l1 l2 l3 l4 h = some x) (kb : ∀ (l3' : Int) (l4' : Int) (h' : xH), x = Sum.inl (l3', l4', h') → J mX12_sums true 0 0 45 xKn [(0, xR 81), (1, xI l1), (2, xI l2), (3, xI l3'), (4, xI l4')] [] h' Q) (ke : ∀ (l3' : Int) (h' : xH), x = (Sum.inr (l3', h')) → J mX12_sums true 0 0 120 xKn [(0, xR 81), (1, xI l1), (2, xI l2), (3, xI l3')] [] h' Q) : J mX12_sums true 0 0 114 xKn [(0, xR 81), (1, xI l1), (2, xI l2), (3, xI l3), (4, xI l4)] [] h Q := by
  unfold f_Md_sums_114 at hf
  obtain ⟨x1, ex1, hf⟩ := xlet_e hf
  refine J_iinc (ls' := [(4, xI x1), (0, xR 81), (1, xI l1), (2, xI l2), (3, xI l3)]) 4 dX12_sums_114 rfl (by decide) ex1 rfl ?_
  refine J_goto (tgt := 45) dX12_sums_117 (by decide) ?_
  refine J_sub [1, 2, 3, 4, 0] rfl ?_
  exact kb _ _ _ (xinl hf)
theorem j_Md_sums_s45 {l1 : Int} {l2 : Int} {l3 : Int} {l4 : Int} {h : xH} {x : ((Int × Int × xH) ⊕ (Int × xH))} {Q : xQ}  (hf : f_Md_sums_s45 l1 l2 l3 l4 h = some x) (kb : ∀ (l3' : Int) (l4' : Int) (h' : xH), x = Sum.inl (l3', l4', h') → J mX12_sums true 0 0 45 xKn [(0, xR 81), (1, xI l1), (2, xI l2), (3, xI l3'), (4, xI l4')] [] h' Q) (ke : ∀ (l3' : Int) (h' : xH), x = (Sum.inr (l3', h')) → J mX12_sums true 0 0 120 xKn [(0, xR 81), (1, xI l1), (2, xI l2), (3, xI l3')] [] h' Q) : J mX12_sums true 0 0 45 xKn [(0, xR 81), (1, xI l1), (2, xI l2), (3, xI l3), (4, xI l4)] [] h Q := by
  unfold f_Md_sums_s45 at hf
  refine J_iload 4 dX12_sums_45 rfl ?_
  refine J_bip dX12_sums_47 (by decide) ?_
  refine J_aload_n 0 dX12_sums_49 rfl rfl ?_
  refine J_getI (j := 16) xcf12 dX12_sums_50 (xK_rg kO81) kO81 (Or.inl xq1036) (by decide) (by decide) ?_
  refine J_iadd dX12_sums_53 ?_
  refine J_ic_ge (tgt := 120) dX12_sums_54 (by decide) (fun hc => ?_) (fun hc => ?_)
  · have hf := xip hc hf
    refine J_aload_n 0 dX12_sums_57 rfl rfl ?_
    refine J_iload 4 dX12_sums_58 rfl ?_
    refine J_bip dX12_sums_60 (by decide) ?_
    obtain ⟨r1, hq, hf⟩ := xc1_e hf
    refine J_cSi (Mc := mX12_min) [xI l4, xI 7] dX12_sums_62 (fc_Md_min.fit ⟨xbl rfl, xbl rfl⟩) rfl ⟨Or.inl xq1307, xq1308⟩ rfl (xbl rfl) (xbl rfl) (jm_Md_min  hq) ?_
    refine J_iload 4 dX12_sums_65 rfl ?_
    refine J_bip dX12_sums_67 (by decide) ?_
    refine J_isub dX12_sums_69 ?_
    refine J_iload_n 1 dX12_sums_70 rfl rfl ?_
    refine J_iload_n 2 dX12_sums_71 rfl rfl ?_
    obtain ⟨r2, h3, hq, hf⟩ := xc2_e hf
    refine J_cVi (Mc := mX12_slip) [xI r1, xI (w32 (l4 - 7)), xI l1, xI l2] dX12_sums_72 (fc_Md_slip.fit ⟨xbl rfl, xbl rfl⟩) rfl ⟨Or.inl xq1371, xq1373, xq100⟩ kO81 (ci := 12) rfl rfl (xbl rfl) (xbl rfl) (jm_Md_slip  hq) ?_
    refine J_istore (ls' := [(5, xI r2), (0, xR 81), (1, xI l1), (2, xI l2), (3, xI l3), (4, xI l4)]) dX12_sums_75 (by decide) rfl rfl ?_
    refine J_iload 0 dX12_sums_77 rfl ?_
    refine J_ldcw (v := 1000000) dX12_sums_79 xq1370 (by decide) ?_
    refine J_ic_ge (tgt := 114) dX12_sums_82 (by decide) (fun hc => ?_) (fun hc => ?_)
    · have hf := xip hc hf
      refine J_iload_n 4 dX12_sums_85 rfl rfl ?_
      refine J_iload 0 dX12_sums_86 rfl ?_
      refine J_aload_n 1 dX12_sums_88 rfl rfl ?_
      refine J_getRl (j := 26) xcf12 dX12_sums_89 kO81 (Or.inl xq1046) (by decide) (by decide) rf_81_26 ?_
      refine J_bip dX12_sums_92 (by decide) ?_
      refine J_iload_n 2 dX12_sums_94 rfl rfl ?_
      refine J_aload_n 1 dX12_sums_95 rfl rfl ?_
      refine J_getI (j := 83) xcf12 dX12_sums_96 (xK_rg kO81) kO81 (Or.inl xq1103) (by decide) (by decide) ?_
      refine J_iadd dX12_sums_99 ?_
      refine J_imul dX12_sums_100 ?_
      refine J_iload_n 3 dX12_sums_101 rfl rfl ?_
      refine J_iadd dX12_sums_102 ?_
      refine J_aload_n 1 dX12_sums_103 rfl rfl ?_
      refine J_getI (j := 84) xcf12 dX12_sums_104 (xK_rg kO81) kO81 (Or.inl xq1104) (by decide) (by decide) ?_
      refine J_iadd dX12_sums_107 ?_
      obtain ⟨hg, hf⟩ := xgd_e hf
      refine J_iald dX12_sums_108 (xK_r1 kO99) kO99 hg nA99 ?_
      refine J_iadd dX12_sums_109 ?_
      obtain ⟨r4, hq, hf⟩ := xc1_e hf
      refine J_cSi (Mc := mX12_min) [xI l3, xI (w32 (r2 + (h3 99 (w32 ((w32 ((w32 (13 * (w32 (l1 + (h3 81 83))))) + l2)) + (h3 81 84))))))] dX12_sums_110 (fc_Md_min.fit ⟨xbl rfl, xbl rfl⟩) rfl ⟨Or.inl xq1307, xq1308⟩ rfl (xbl rfl) (xbl rfl) (jm_Md_min  hq) ?_
      refine J_istore_n (ls' := [(3, xI r4), (5, xI r2), (0, xR 81), (1, xI l1), (2, xI l2), (4, xI l4)]) dX12_sums_113 rfl (by decide) rfl rfl ?_
      refine J_sub [2, 3, 4, 0, 5] rfl ?_
      exact j_Md_sums_114  hf kb ke
    · have hf := xin' hc hf
      refine J_sub [1, 2, 3, 4, 5] rfl ?_
      exact j_Md_sums_114  hf kb ke
  · have hf := xin' hc hf
    refine J_sub [0, 1, 2, 3] rfl ?_
    exact ke _ _ (xinl hf)
theorem j_Md_sums_45 {l1 : Int} {l2 : Int} {l3 : Int} {l4 : Int} {h : xH} {x : ((Int × xH) ⊕ xH)} {Q : xQ}  (hf : f_Md_sums_45 l1 l2 l3 l4 h = some x) (kb : ∀ (l2' : Int) (h' : xH), x = Sum.inl (l2', h') → J mX12_sums true 0 0 14 xKn [(0, xR 81), (1, xI l1), (2, xI l2')] [] h' Q) (ke : ∀  (h' : xH), x = (Sum.inr h') → J mX12_sums true 0 0 138 xKn [(0, xR 81), (1, xI l1)] [] h' Q) : J mX12_sums true 0 0 45 xKn [(0, xR 81), (1, xI l1), (2, xI l2), (3, xI l3), (4, xI l4)] [] h Q := by
  unfold f_Md_sums_45 at hf
  obtain ⟨b0, hb0, hf⟩ := xc1_e hf
  refine xloop_ind (P := fun s : (Int × Int × xH) => J mX12_sums true 0 0 45 xKn [(0, xR 81), (1, xI l1), (2, xI l2), (3, xI s.1), (4, xI s.2.1)] [] s.2.2 Q) hb0 (fun s x1 hs ib ie => ?_)
  exact j_Md_sums_s45  hs (fun _ _ _ e => ib _ e) (fun _ _ e => by have := ie _ e; subst this; exact j_Md_sums_120  hf kb ke)
theorem j_Md_sums_41 {l1 : Int} {l2 : Int} {s0 : Int} {h : xH} {x : ((Int × xH) ⊕ xH)} {Q : xQ}  (hf : f_Md_sums_41 l1 l2 s0 h = some x) (kb : ∀ (l2' : Int) (h' : xH), x = Sum.inl (l2', h') → J mX12_sums true 0 0 14 xKn [(0, xR 81), (1, xI l1), (2, xI l2')] [] h' Q) (ke : ∀  (h' : xH), x = (Sum.inr h') → J mX12_sums true 0 0 138 xKn [(0, xR 81), (1, xI l1)] [] h' Q) : J mX12_sums true 0 0 41 xKn [(0, xR 81), (1, xI l1), (2, xI l2)] [xI s0] h Q := by
  unfold f_Md_sums_41 at hf
  refine J_istore_n (ls' := [(3, xI s0), (0, xR 81), (1, xI l1), (2, xI l2)]) dX12_sums_41 rfl (by decide) rfl rfl ?_
  refine J_iconst dX12_sums_42 (by decide) ?_
  refine J_istore (ls' := [(4, xI 0), (3, xI s0), (0, xR 81), (1, xI l1), (2, xI l2)]) dX12_sums_43 (by decide) rfl rfl ?_
  refine J_sub [2, 3, 4, 1, 0] rfl ?_
  exact j_Md_sums_45  hf kb ke
theorem j_Md_sums_38 {l1 : Int} {l2 : Int} {h : xH} {x : ((Int × xH) ⊕ xH)} {Q : xQ}  (hf : f_Md_sums_38 l1 l2 h = some x) (kb : ∀ (l2' : Int) (h' : xH), x = Sum.inl (l2', h') → J mX12_sums true 0 0 14 xKn [(0, xR 81), (1, xI l1), (2, xI l2')] [] h' Q) (ke : ∀  (h' : xH), x = (Sum.inr h') → J mX12_sums true 0 0 138 xKn [(0, xR 81), (1, xI l1)] [] h' Q) : J mX12_sums true 0 0 38 xKn [(0, xR 81), (1, xI l1), (2, xI l2)] [] h Q := by
  unfold f_Md_sums_38 at hf
  refine J_ldcw (v := 1000000) dX12_sums_38 xq1370 (by decide) ?_
  exact j_Md_sums_41  hf kb ke
theorem j_Md_sums_s14 {l1 : Int} {l2 : Int} {h : xH} {x : ((Int × xH) ⊕ xH)} {Q : xQ}  (hf : f_Md_sums_s14 l1 l2 h = some x) (kb : ∀ (l2' : Int) (h' : xH), x = Sum.inl (l2', h') → J mX12_sums true 0 0 14 xKn [(0, xR 81), (1, xI l1), (2, xI l2')] [] h' Q) (ke : ∀  (h' : xH), x = (Sum.inr h') → J mX12_sums true 0 0 138 xKn [(0, xR 81), (1, xI l1)] [] h' Q) : J mX12_sums true 0 0 14 xKn [(0, xR 81), (1, xI l1), (2, xI l2)] [] h Q := by
  unfold f_Md_sums_s14 at hf
  refine J_iload_n 2 dX12_sums_14 rfl rfl ?_
  refine J_if_lt (tgt := 138) dX12_sums_15 (by decide) (fun hc => ?_) (fun hc => ?_)
  · have hf := xip hc hf
    refine J_sub [0, 1] rfl ?_
    exact ke _ (xinl hf)
  · have hf := xin' hc hf
    refine J_iload_n 1 dX12_sums_18 rfl rfl ?_
    refine J_aload_n 0 dX12_sums_19 rfl rfl ?_
    refine J_getI (j := 22) xcf12 dX12_sums_20 (xK_rg kO81) kO81 (Or.inl xq1042) (by decide) (by decide) ?_
    refine J_ic_ne (tgt := 38) dX12_sums_23 (by decide) (fun hc => ?_) (fun hc => ?_)
    · have hf := xip hc hf
      refine J_iload_n 2 dX12_sums_26 rfl rfl ?_
      refine J_aload_n 0 dX12_sums_27 rfl rfl ?_
      refine J_getI (j := 23) xcf12 dX12_sums_28 (xK_rg kO81) kO81 (Or.inl xq1043) (by decide) (by decide) ?_
      refine J_ic_ne (tgt := 38) dX12_sums_31 (by decide) (fun hc => ?_) (fun hc => ?_)
      · have hf := xip hc hf
        refine J_iconst dX12_sums_34 (by decide) ?_
        refine J_goto (tgt := 41) dX12_sums_35 (by decide) ?_
        exact j_Md_sums_41  hf kb ke
      · have hf := xin' hc hf
        exact j_Md_sums_38  hf kb ke
    · have hf := xin' hc hf
      exact j_Md_sums_38  hf kb ke
theorem j_Md_sums_14 {l1 : Int} {l2 : Int} {h : xH} {x : ((Int × xH) ⊕ xH)} {Q : xQ}  (hf : f_Md_sums_14 l1 l2 h = some x) (kb : ∀ (l1' : Int) (h' : xH), x = Sum.inl (l1', h') → J mX12_sums true 0 0 5 xKn [(0, xR 81), (1, xI l1')] [] h' Q) (ke : ∀  (h' : xH), x = (Sum.inr h') → J mX12_sums true 0 0 144 xKn [] [] h' Q) : J mX12_sums true 0 0 14 xKn [(0, xR 81), (1, xI l1), (2, xI l2)] [] h Q := by
  unfold f_Md_sums_14 at hf
  obtain ⟨b0, hb0, hf⟩ := xc1_e hf
  refine xloop_ind (P := fun s : (Int × xH) => J mX12_sums true 0 0 14 xKn [(0, xR 81), (1, xI l1), (2, xI s.1)] [] s.2 Q) hb0 (fun s x1 hs ib ie => ?_)
  exact j_Md_sums_s14  hs (fun _ _ e => ib _ e) (fun _ e => by have := ie _ e; subst this; exact j_Md_sums_138  hf kb ke)
theorem j_Md_sums_s5 {l1 : Int} {h : xH} {x : ((Int × xH) ⊕ xH)} {Q : xQ}  (hf : f_Md_sums_s5 l1 h = some x) (kb : ∀ (l1' : Int) (h' : xH), x = Sum.inl (l1', h') → J mX12_sums true 0 0 5 xKn [(0, xR 81), (1, xI l1')] [] h' Q) (ke : ∀  (h' : xH), x = (Sum.inr h') → J mX12_sums true 0 0 144 xKn [] [] h' Q) : J mX12_sums true 0 0 5 xKn [(0, xR 81), (1, xI l1)] [] h Q := by
  unfold f_Md_sums_s5 at hf
  refine J_iload_n 1 dX12_sums_5 rfl rfl ?_
  refine J_if_lt (tgt := 144) dX12_sums_6 (by decide) (fun hc => ?_) (fun hc => ?_)
  · have hf := xip hc hf
    refine J_sub [] rfl ?_
    exact ke _ (xinl hf)
  · have hf := xin' hc hf
    refine J_aload_n 0 dX12_sums_9 rfl rfl ?_
    refine J_getI (j := 23) xcf12 dX12_sums_10 (xK_rg kO81) kO81 (Or.inl xq1043) (by decide) (by decide) ?_
    obtain ⟨x1, ex1, hf⟩ := xlet_e hf
    refine J_istore_n (ls' := [(2, xI x1), (0, xR 81), (1, xI l1)]) dX12_sums_13 rfl (by decide) ex1 rfl ?_
    refine J_sub [1, 2, 0] rfl ?_
    exact j_Md_sums_14  hf kb ke
theorem j_Md_sums_5 {l1 : Int} {h : xH} {h0 : xH}  (hf : f_Md_sums_5 l1 h = some h0)  : J mX12_sums true 0 0 5 xKn [(0, xR 81), (1, xI l1)] [] h (xEq none h0) := by
  unfold f_Md_sums_5 at hf
  obtain ⟨b0, hb0, hf⟩ := xc1_e hf
  refine xloop_ind (P := fun s : (Int × xH) => J mX12_sums true 0 0 5 xKn [(0, xR 81), (1, xI s.1)] [] s.2 (xEq none h0)) hb0 (fun s x1 hs ib ie => ?_)
  exact j_Md_sums_s5  hs (fun _ _ e => ib _ e) (fun _ e => by have := ie _ e; subst this; exact j_Md_sums_144  hf)
theorem jm_Md_sums  {h : xH} {h0 : xH}  (hf : f_Md_sums h = some h0) : J mX12_sums true 0 0 0 xKn (xen 0 [xR 81]) [] h (xEq none h0) := by
  unfold f_Md_sums at hf
  refine J_cong (ls2 := [(0, xR 81)]) (st2 := []) rfl rfl ?_
  refine J_aload_n 0 dX12_sums_0 rfl rfl ?_
  refine J_getI (j := 22) xcf12 dX12_sums_1 (xK_rg kO81) kO81 (Or.inl xq1042) (by decide) (by decide) ?_
  obtain ⟨x1, ex1, hf⟩ := xlet_e hf
  refine J_istore_n (ls' := [(1, xI x1), (0, xR 81)]) dX12_sums_4 rfl (by decide) ex1 rfl ?_
  refine J_sub [1, 0] rfl ?_
  exact j_Md_sums_5  hf
theorem dX12_ways_0 : decode cX12_ways 0 = .ok (.aload_n 0, 1) := by decide +kernel
theorem dX12_ways_1 : decode cX12_ways 1 = .ok (.iconst 0, 1) := by decide +kernel
theorem dX12_ways_2 : decode cX12_ways 2 = .ok (.putfield 319, 3) := by decide +kernel
theorem dX12_ways_5 : decode cX12_ways 5 = .ok (.iconst 0, 1) := by decide +kernel
theorem dX12_ways_6 : decode cX12_ways 6 = .ok (.istore_n 1, 1) := by decide +kernel
theorem dX12_ways_7 : decode cX12_ways 7 = .ok (.iconst 0, 1) := by decide +kernel
theorem dX12_ways_8 : decode cX12_ways 8 = .ok (.istore_n 2, 1) := by decide +kernel
theorem dX12_ways_9 : decode cX12_ways 9 = .ok (.iload_n 1, 1) := by decide +kernel
theorem dX12_ways_10 : decode cX12_ways 10 = .ok (.aload_n 0, 1) := by decide +kernel
theorem dX12_ways_11 : decode cX12_ways 11 = .ok (.getfield 228, 3) := by decide +kernel
theorem dX12_ways_14 : decode cX12_ways 14 = .ok (.if_icmp .lt 11, 3) := by decide +kernel
theorem dX12_ways_17 : decode cX12_ways 17 = .ok (.iload_n 2, 1) := by decide +kernel
theorem dX12_ways_18 : decode cX12_ways 18 = .ok (.aload_n 0, 1) := by decide +kernel
theorem dX12_ways_19 : decode cX12_ways 19 = .ok (.getfield 231, 3) := by decide +kernel
theorem dX12_ways_22 : decode cX12_ways 22 = .ok (.if_icmp .ge 181, 3) := by decide +kernel
theorem dX12_ways_25 : decode cX12_ways 25 = .ok (.iconst 0, 1) := by decide +kernel
theorem dX12_ways_26 : decode cX12_ways 26 = .ok (.istore_n 3, 1) := by decide +kernel
theorem dX12_ways_27 : decode cX12_ways 27 = .ok (.aload_n 0, 1) := by decide +kernel
theorem dX12_ways_28 : decode cX12_ways 28 = .ok (.iconst 0, 1) := by decide +kernel
theorem dX12_ways_29 : decode cX12_ways 29 = .ok (.iconst (-1), 1) := by decide +kernel
theorem dX12_ways_30 : decode cX12_ways 30 = .ok (.iload_n 1, 1) := by decide +kernel
theorem dX12_ways_31 : decode cX12_ways 31 = .ok (.iload_n 2, 1) := by decide +kernel
theorem dX12_ways_32 : decode cX12_ways 32 = .ok (.invokevirtual 315, 3) := by decide +kernel
theorem dX12_ways_35 : decode cX12_ways 35 = .ok (.istore 4, 2) := by decide +kernel
theorem dX12_ways_37 : decode cX12_ways 37 = .ok (.iload 4, 2) := by decide +kernel
theorem dX12_ways_39 : decode cX12_ways 39 = .ok (.ldc_w 302, 3) := by decide +kernel
theorem dX12_ways_42 : decode cX12_ways 42 = .ok (.if_icmp .ge 41, 3) := by decide +kernel
theorem dX12_ways_45 : decode cX12_ways 45 = .ok (.iload 4, 2) := by decide +kernel
theorem dX12_ways_47 : decode cX12_ways 47 = .ok (.aload_n 0, 1) := by decide +kernel
theorem dX12_ways_48 : decode cX12_ways 48 = .ok (.getfield 68, 3) := by decide +kernel
theorem dX12_ways_51 : decode cX12_ways 51 = .ok (.bipush 13, 2) := by decide +kernel
theorem dX12_ways_53 : decode cX12_ways 53 = .ok (.iload_n 1, 1) := by decide +kernel
theorem dX12_ways_54 : decode cX12_ways 54 = .ok (.aload_n 0, 1) := by decide +kernel
theorem dX12_ways_55 : decode cX12_ways 55 = .ok (.getfield 296, 3) := by decide +kernel
theorem dX12_ways_58 : decode cX12_ways 58 = .ok (.iadd, 1) := by decide +kernel
theorem dX12_ways_59 : decode cX12_ways 59 = .ok (.imul, 1) := by decide +kernel
theorem dX12_ways_60 : decode cX12_ways 60 = .ok (.iload_n 2, 1) := by decide +kernel
theorem dX12_ways_61 : decode cX12_ways 61 = .ok (.iadd, 1) := by decide +kernel
theorem dX12_ways_62 : decode cX12_ways 62 = .ok (.aload_n 0, 1) := by decide +kernel
theorem dX12_ways_63 : decode cX12_ways 63 = .ok (.getfield 299, 3) := by decide +kernel
theorem dX12_ways_66 : decode cX12_ways 66 = .ok (.iadd, 1) := by decide +kernel
theorem dX12_ways_67 : decode cX12_ways 67 = .ok (.iaload, 1) := by decide +kernel
theorem dX12_ways_68 : decode cX12_ways 68 = .ok (.iadd, 1) := by decide +kernel
theorem dX12_ways_69 : decode cX12_ways 69 = .ok (.aload_n 0, 1) := by decide +kernel
theorem dX12_ways_70 : decode cX12_ways 70 = .ok (.getfield 68, 3) := by decide +kernel
theorem dX12_ways_73 : decode cX12_ways 73 = .ok (.bipush 13, 2) := by decide +kernel
theorem dX12_ways_75 : decode cX12_ways 75 = .ok (.iload_n 1, 1) := by decide +kernel
theorem dX12_ways_76 : decode cX12_ways 76 = .ok (.imul, 1) := by decide +kernel
theorem dX12_ways_77 : decode cX12_ways 77 = .ok (.iload_n 2, 1) := by decide +kernel
theorem dX12_ways_78 : decode cX12_ways 78 = .ok (.iadd, 1) := by decide +kernel
theorem dX12_ways_79 : decode cX12_ways 79 = .ok (.iaload, 1) := by decide +kernel
theorem dX12_ways_80 : decode cX12_ways 80 = .ok (.if_icmp .eq 27, 3) := by decide +kernel
theorem dX12_ways_83 : decode cX12_ways 83 = .ok (.iinc 3 1, 3) := by decide +kernel
theorem dX12_ways_86 : decode cX12_ways 86 = .ok (.aload_n 0, 1) := by decide +kernel
theorem dX12_ways_87 : decode cX12_ways 87 = .ok (.iload_n 3, 1) := by decide +kernel
theorem dX12_ways_88 : decode cX12_ways 88 = .ok (.bipush 7, 2) := by decide +kernel
theorem dX12_ways_90 : decode cX12_ways 90 = .ok (.invokestatic 250, 3) := by decide +kernel
theorem dX12_ways_93 : decode cX12_ways 93 = .ok (.iload_n 3, 1) := by decide +kernel
theorem dX12_ways_94 : decode cX12_ways 94 = .ok (.bipush 7, 2) := by decide +kernel
theorem dX12_ways_96 : decode cX12_ways 96 = .ok (.isub, 1) := by decide +kernel
theorem dX12_ways_97 : decode cX12_ways 97 = .ok (.iload_n 1, 1) := by decide +kernel
theorem dX12_ways_98 : decode cX12_ways 98 = .ok (.iload_n 2, 1) := by decide +kernel
theorem dX12_ways_99 : decode cX12_ways 99 = .ok (.invokevirtual 315, 3) := by decide +kernel
theorem dX12_ways_102 : decode cX12_ways 102 = .ok (.istore 4, 2) := by decide +kernel
theorem dX12_ways_104 : decode cX12_ways 104 = .ok (.goto (-67), 3) := by decide +kernel
theorem dX12_ways_107 : decode cX12_ways 107 = .ok (.aload_n 0, 1) := by decide +kernel
theorem dX12_ways_108 : decode cX12_ways 108 = .ok (.getfield 71, 3) := by decide +kernel
theorem dX12_ways_111 : decode cX12_ways 111 = .ok (.aload_n 0, 1) := by decide +kernel
theorem dX12_ways_112 : decode cX12_ways 112 = .ok (.getfield 319, 3) := by decide +kernel
theorem dX12_ways_115 : decode cX12_ways 115 = .ok (.iload_n 3, 1) := by decide +kernel
theorem dX12_ways_116 : decode cX12_ways 116 = .ok (.bipush 7, 2) := by decide +kernel
theorem dX12_ways_118 : decode cX12_ways 118 = .ok (.invokestatic 250, 3) := by decide +kernel
theorem dX12_ways_121 : decode cX12_ways 121 = .ok (.iastore, 1) := by decide +kernel
theorem dX12_ways_122 : decode cX12_ways 122 = .ok (.aload_n 0, 1) := by decide +kernel
theorem dX12_ways_123 : decode cX12_ways 123 = .ok (.getfield 74, 3) := by decide +kernel
theorem dX12_ways_126 : decode cX12_ways 126 = .ok (.aload_n 0, 1) := by decide +kernel
theorem dX12_ways_127 : decode cX12_ways 127 = .ok (.getfield 319, 3) := by decide +kernel
theorem dX12_ways_130 : decode cX12_ways 130 = .ok (.iload 4, 2) := by decide +kernel
theorem dX12_ways_132 : decode cX12_ways 132 = .ok (.iastore, 1) := by decide +kernel
theorem dX12_ways_133 : decode cX12_ways 133 = .ok (.aload_n 0, 1) := by decide +kernel
theorem dX12_ways_134 : decode cX12_ways 134 = .ok (.getfield 77, 3) := by decide +kernel
theorem dX12_ways_137 : decode cX12_ways 137 = .ok (.aload_n 0, 1) := by decide +kernel
theorem dX12_ways_138 : decode cX12_ways 138 = .ok (.getfield 319, 3) := by decide +kernel
theorem dX12_ways_141 : decode cX12_ways 141 = .ok (.iload_n 1, 1) := by decide +kernel
theorem dX12_ways_142 : decode cX12_ways 142 = .ok (.iastore, 1) := by decide +kernel
theorem dX12_ways_143 : decode cX12_ways 143 = .ok (.aload_n 0, 1) := by decide +kernel
theorem dX12_ways_144 : decode cX12_ways 144 = .ok (.getfield 80, 3) := by decide +kernel
theorem dX12_ways_147 : decode cX12_ways 147 = .ok (.aload_n 0, 1) := by decide +kernel
theorem dX12_ways_148 : decode cX12_ways 148 = .ok (.getfield 319, 3) := by decide +kernel
theorem dX12_ways_151 : decode cX12_ways 151 = .ok (.iload_n 2, 1) := by decide +kernel
theorem dX12_ways_152 : decode cX12_ways 152 = .ok (.iastore, 1) := by decide +kernel
theorem dX12_ways_153 : decode cX12_ways 153 = .ok (.aload_n 0, 1) := by decide +kernel
theorem dX12_ways_154 : decode cX12_ways 154 = .ok (.getfield 83, 3) := by decide +kernel
theorem dX12_ways_157 : decode cX12_ways 157 = .ok (.aload_n 0, 1) := by decide +kernel
theorem dX12_ways_158 : decode cX12_ways 158 = .ok (.getfield 319, 3) := by decide +kernel
theorem dX12_ways_161 : decode cX12_ways 161 = .ok (.iload_n 3, 1) := by decide +kernel
theorem dX12_ways_162 : decode cX12_ways 162 = .ok (.bipush 7, 2) := by decide +kernel
theorem dX12_ways_164 : decode cX12_ways 164 = .ok (.if_icmp .lt 10, 3) := by decide +kernel
theorem dX12_ways_167 : decode cX12_ways 167 = .ok (.iload_n 3, 1) := by decide +kernel
theorem dX12_ways_168 : decode cX12_ways 168 = .ok (.bipush 7, 2) := by decide +kernel
theorem dX12_ways_170 : decode cX12_ways 170 = .ok (.isub, 1) := by decide +kernel
theorem dX12_ways_171 : decode cX12_ways 171 = .ok (.goto 4, 3) := by decide +kernel
theorem dX12_ways_174 : decode cX12_ways 174 = .ok (.iconst (-1), 1) := by decide +kernel
theorem dX12_ways_175 : decode cX12_ways 175 = .ok (.iastore, 1) := by decide +kernel
theorem dX12_ways_176 : decode cX12_ways 176 = .ok (.aload_n 0, 1) := by decide +kernel
theorem dX12_ways_177 : decode cX12_ways 177 = .ok (.dup, 1) := by decide +kernel
theorem dX12_ways_178 : decode cX12_ways 178 = .ok (.getfield 319, 3) := by decide +kernel
theorem dX12_ways_181 : decode cX12_ways 181 = .ok (.iconst 1, 1) := by decide +kernel
theorem dX12_ways_182 : decode cX12_ways 182 = .ok (.iadd, 1) := by decide +kernel
theorem dX12_ways_183 : decode cX12_ways 183 = .ok (.putfield 319, 3) := by decide +kernel
theorem dX12_ways_186 : decode cX12_ways 186 = .ok (.iload_n 1, 1) := by decide +kernel
theorem dX12_ways_187 : decode cX12_ways 187 = .ok (.aload_n 0, 1) := by decide +kernel
theorem dX12_ways_188 : decode cX12_ways 188 = .ok (.getfield 296, 3) := by decide +kernel
theorem dX12_ways_191 : decode cX12_ways 191 = .ok (.iadd, 1) := by decide +kernel
theorem dX12_ways_192 : decode cX12_ways 192 = .ok (.istore_n 1, 1) := by decide +kernel
theorem dX12_ways_193 : decode cX12_ways 193 = .ok (.iload_n 2, 1) := by decide +kernel
theorem dX12_ways_194 : decode cX12_ways 194 = .ok (.aload_n 0, 1) := by decide +kernel
theorem dX12_ways_195 : decode cX12_ways 195 = .ok (.getfield 299, 3) := by decide +kernel
theorem dX12_ways_198 : decode cX12_ways 198 = .ok (.iadd, 1) := by decide +kernel
theorem dX12_ways_199 : decode cX12_ways 199 = .ok (.istore_n 2, 1) := by decide +kernel
theorem dX12_ways_200 : decode cX12_ways 200 = .ok (.goto (-191), 3) := by decide +kernel
theorem dX12_ways_203 : decode cX12_ways 203 = .ok (.return_, 1) := by decide +kernel
theorem j_Md_ways_203  {h : xH} {h0 : xH}  (hf : f_Md_ways_203 h = some h0)  : J mX12_ways true 0 0 203 xKn [] [] h (xEq none h0) := by
  unfold f_Md_ways_203 at hf
  exact J_rt dX12_ways_203 rfl (xq_v hf)
theorem j_Md_ways_175 {l1 : Int} {l2 : Int} {s1 : Int} {s2 : Int} {h : xH} {x : ((Int × Int × xH) ⊕ xH)} {Q : xQ}  (hf : f_Md_ways_175 l1 l2 s1 s2 h = some x) (kb : ∀ (l1' : Int) (l2' : Int) (h' : xH), x = Sum.inl (l1', l2', h') → J mX12_ways true 0 0 9 xKn [(0, xR 81), (1, xI l1'), (2, xI l2')] [] h' Q) (ke : ∀  (h' : xH), x = (Sum.inr h') → J mX12_ways true 0 0 203 xKn [] [] h' Q) : J mX12_ways true 0 0 175 xKn [(0, xR 81), (1, xI l1), (2, xI l2)] [xI s2, xI s1, xR 104] h Q := by
  unfold f_Md_ways_175 at hf
  obtain ⟨hg, hf⟩ := xgd_e hf
  obtain ⟨h1, eh1, hf⟩ := xlet_e hf
  refine J_iast dX12_ways_175 (xK_r1 kO104) kO104 hg nA104 eh1 ?_
  refine J_aload_n 0 dX12_ways_176 rfl rfl ?_
  refine J_dup dX12_ways_177 rfl ?_
  refine J_getI (j := 27) xcf12 dX12_ways_178 (xK_rg kO81) kO81 (Or.inl xq1047) (by decide) (by decide) ?_
  refine J_iconst dX12_ways_181 (by decide) ?_
  refine J_iadd dX12_ways_182 ?_
  obtain ⟨h2, eh2, hf⟩ := xlet_e hf
  refine J_putI (j := 27) xcf12 dX12_ways_183 (xK_rg kO81) kO81 (Or.inl xq1047) (by decide) (by decide) eh2 ?_
  refine J_iload_n 1 dX12_ways_186 rfl rfl ?_
  refine J_aload_n 0 dX12_ways_187 rfl rfl ?_
  refine J_getI (j := 83) xcf12 dX12_ways_188 (xK_rg kO81) kO81 (Or.inl xq1103) (by decide) (by decide) ?_
  refine J_iadd dX12_ways_191 ?_
  obtain ⟨x3, ex3, hf⟩ := xlet_e hf
  refine J_istore_n (ls' := [(1, xI x3), (0, xR 81), (2, xI l2)]) dX12_ways_192 rfl (by decide) ex3 rfl ?_
  refine J_iload_n 2 dX12_ways_193 rfl rfl ?_
  refine J_aload_n 1 dX12_ways_194 rfl rfl ?_
  refine J_getI (j := 84) xcf12 dX12_ways_195 (xK_rg kO81) kO81 (Or.inl xq1104) (by decide) (by decide) ?_
  refine J_iadd dX12_ways_198 ?_
  obtain ⟨x4, ex4, hf⟩ := xlet_e hf
  refine J_istore_n (ls' := [(2, xI x4), (1, xI x3), (0, xR 81)]) dX12_ways_199 rfl (by decide) ex4 rfl ?_
  refine J_goto (tgt := 9) dX12_ways_200 (by decide) ?_
  refine J_sub [2, 1, 0] rfl ?_
  exact kb _ _ _ (xinl hf)
theorem j_Md_ways_107 {l1 : Int} {l2 : Int} {l3 : Int} {l4 : Int} {h : xH} {x : ((Int × Int × xH) ⊕ xH)} {Q : xQ}  (hf : f_Md_ways_107 l1 l2 l3 l4 h = some x) (kb : ∀ (l1' : Int) (l2' : Int) (h' : xH), x = Sum.inl (l1', l2', h') → J mX12_ways true 0 0 9 xKn [(0, xR 81), (1, xI l1'), (2, xI l2')] [] h' Q) (ke : ∀  (h' : xH), x = (Sum.inr h') → J mX12_ways true 0 0 203 xKn [] [] h' Q) : J mX12_ways true 0 0 107 xKn [(0, xR 81), (1, xI l1), (2, xI l2), (3, xI l3), (4, xI l4)] [] h Q := by
  unfold f_Md_ways_107 at hf
  refine J_aload_n 0 dX12_ways_107 rfl rfl ?_
  refine J_getRl (j := 28) xcf12 dX12_ways_108 kO81 (Or.inl xq1048) (by decide) (by decide) rf_81_28 ?_
  refine J_aload_n 0 dX12_ways_111 rfl rfl ?_
  refine J_getI (j := 27) xcf12 dX12_ways_112 (xK_rg kO81) kO81 (Or.inl xq1047) (by decide) (by decide) ?_
  refine J_iload_n 3 dX12_ways_115 rfl rfl ?_
  refine J_bip dX12_ways_116 (by decide) ?_
  obtain ⟨r1, hq, hf⟩ := xc1_e hf
  refine J_cSi (Mc := mX12_min) [xI l3, xI 7] dX12_ways_118 (fc_Md_min.fit ⟨xbl rfl, xbl rfl⟩) rfl ⟨Or.inl xq1307, xq1308⟩ rfl (xbl rfl) (xbl rfl) (jm_Md_min  hq) ?_
  obtain ⟨hg, hf⟩ := xgd_e hf
  obtain ⟨h2, eh2, hf⟩ := xlet_e hf
  refine J_iast dX12_ways_121 (xK_r1 kO100) kO100 hg nA100 eh2 ?_
  refine J_aload_n 0 dX12_ways_122 rfl rfl ?_
  refine J_getRl (j := 29) xcf12 dX12_ways_123 kO81 (Or.inl xq1049) (by decide) (by decide) rf_81_29 ?_
  refine J_aload_n 0 dX12_ways_126 rfl rfl ?_
  refine J_getI (j := 27) xcf12 dX12_ways_127 (xK_rg kO81) kO81 (Or.inl xq1047) (by decide) (by decide) ?_
  refine J_iload 4 dX12_ways_130 rfl ?_
  obtain ⟨hg, hf⟩ := xgd_e hf
  obtain ⟨h3, eh3, hf⟩ := xlet_e hf
  refine J_iast dX12_ways_132 (xK_r1 kO101) kO101 hg nA101 eh3 ?_
  refine J_aload_n 0 dX12_ways_133 rfl rfl ?_
  refine J_getRl (j := 30) xcf12 dX12_ways_134 kO81 (Or.inl xq1050) (by decide) (by decide) rf_81_30 ?_
  refine J_aload_n 0 dX12_ways_137 rfl rfl ?_
  refine J_getI (j := 27) xcf12 dX12_ways_138 (xK_rg kO81) kO81 (Or.inl xq1047) (by decide) (by decide) ?_
  refine J_iload_n 1 dX12_ways_141 rfl rfl ?_
  obtain ⟨hg, hf⟩ := xgd_e hf
  obtain ⟨h4, eh4, hf⟩ := xlet_e hf
  refine J_iast dX12_ways_142 (xK_r1 kO102) kO102 hg nA102 eh4 ?_
  refine J_aload_n 0 dX12_ways_143 rfl rfl ?_
  refine J_getRl (j := 31) xcf12 dX12_ways_144 kO81 (Or.inl xq1051) (by decide) (by decide) rf_81_31 ?_
  refine J_aload_n 0 dX12_ways_147 rfl rfl ?_
  refine J_getI (j := 27) xcf12 dX12_ways_148 (xK_rg kO81) kO81 (Or.inl xq1047) (by decide) (by decide) ?_
  refine J_iload_n 2 dX12_ways_151 rfl rfl ?_
  obtain ⟨hg, hf⟩ := xgd_e hf
  obtain ⟨h5, eh5, hf⟩ := xlet_e hf
  refine J_iast dX12_ways_152 (xK_r1 kO103) kO103 hg nA103 eh5 ?_
  refine J_aload_n 0 dX12_ways_153 rfl rfl ?_
  refine J_getRl (j := 32) xcf12 dX12_ways_154 kO81 (Or.inl xq1052) (by decide) (by decide) rf_81_32 ?_
  refine J_aload_n 0 dX12_ways_157 rfl rfl ?_
  refine J_getI (j := 27) xcf12 dX12_ways_158 (xK_rg kO81) kO81 (Or.inl xq1047) (by decide) (by decide) ?_
  refine J_iload_n 3 dX12_ways_161 rfl rfl ?_
  refine J_bip dX12_ways_162 (by decide) ?_
  refine J_ic_lt (tgt := 174) dX12_ways_164 (by decide) (fun hc => ?_) (fun hc => ?_)
  · have hf := xip hc hf
    refine J_iconst dX12_ways_174 (by decide) ?_
    refine J_sub [0, 1, 2] rfl ?_
    exact j_Md_ways_175  hf kb ke
  · have hf := xin' hc hf
    refine J_iload_n 3 dX12_ways_167 rfl rfl ?_
    refine J_bip dX12_ways_168 (by decide) ?_
    refine J_isub dX12_ways_170 ?_
    refine J_goto (tgt := 175) dX12_ways_171 (by decide) ?_
    refine J_sub [0, 1, 2] rfl ?_
    exact j_Md_ways_175  hf kb ke
theorem j_Md_ways_83 {l1 : Int} {l2 : Int} {l3 : Int} {h : xH} {x : ((Int × Int × xH) ⊕ (Int × Int × xH))} {Q : xQ}  (hf : f_Md_ways_83 l1 l2 l3 h = some x) (kb : ∀ (l3' : Int) (l4' : Int) (h' : xH), x = Sum.inl (l3', l4', h') → J mX12_ways true 0 0 37 xKn [(0, xR 81), (1, xI l1), (2, xI l2), (3, xI l3'), (4, xI l4')] [] h' Q) (ke : ∀ (l3' : Int) (l4' : Int) (h' : xH), x = (Sum.inr (l3', l4', h')) → J mX12_ways true 0 0 107 xKn [(0, xR 81), (1, xI l1), (2, xI l2), (3, xI l3'), (4, xI l4')] [] h' Q) : J mX12_ways true 0 0 83 xKn [(0, xR 81), (1, xI l1), (2, xI l2), (3, xI l3)] [] h Q := by
  unfold f_Md_ways_83 at hf
  obtain ⟨x1, ex1, hf⟩ := xlet_e hf
  refine J_iinc (ls' := [(3, xI x1), (0, xR 81), (1, xI l1), (2, xI l2)]) 3 dX12_ways_83 rfl (by decide) ex1 rfl ?_
  refine J_aload_n 1 dX12_ways_86 rfl rfl ?_
  refine J_iload_n 0 dX12_ways_87 rfl rfl ?_
  refine J_bip dX12_ways_88 (by decide) ?_
  obtain ⟨r2, hq, hf⟩ := xc1_e hf
  refine J_cSi (Mc := mX12_min) [xI x1, xI 7] dX12_ways_90 (fc_Md_min.fit ⟨xbl rfl, xbl rfl⟩) rfl ⟨Or.inl xq1307, xq1308⟩ rfl (xbl rfl) (xbl rfl) (jm_Md_min  hq) ?_
  refine J_iload_n 0 dX12_ways_93 rfl rfl ?_
  refine J_bip dX12_ways_94 (by decide) ?_
  refine J_isub dX12_ways_96 ?_
  refine J_iload_n 2 dX12_ways_97 rfl rfl ?_
  refine J_iload_n 3 dX12_ways_98 rfl rfl ?_
  obtain ⟨r3, h4, hq, hf⟩ := xc2_e hf
  refine J_cVi (Mc := mX12_slip) [xI r2, xI (w32 (x1 - 7)), xI l1, xI l2] dX12_ways_99 (fc_Md_slip.fit ⟨xbl rfl, xbl rfl⟩) rfl ⟨Or.inl xq1371, xq1373, xq100⟩ kO81 (ci := 12) rfl rfl (xbl rfl) (xbl rfl) (jm_Md_slip  hq) ?_
  refine J_istore (ls' := [(4, xI r3), (3, xI x1), (0, xR 81), (1, xI l1), (2, xI l2)]) dX12_ways_102 (by decide) rfl rfl ?_
  refine J_goto (tgt := 37) dX12_ways_104 (by decide) ?_
  refine J_sub [2, 3, 4, 1, 0] rfl ?_
  exact kb _ _ _ (xinl hf)
theorem j_Md_ways_s37 {l1 : Int} {l2 : Int} {l3 : Int} {l4 : Int} {h : xH} {x : ((Int × Int × xH) ⊕ (Int × Int × xH))} {Q : xQ}  (hf : f_Md_ways_s37 l1 l2 l3 l4 h = some x) (kb : ∀ (l3' : Int) (l4' : Int) (h' : xH), x = Sum.inl (l3', l4', h') → J mX12_ways true 0 0 37 xKn [(0, xR 81), (1, xI l1), (2, xI l2), (3, xI l3'), (4, xI l4')] [] h' Q) (ke : ∀ (l3' : Int) (l4' : Int) (h' : xH), x = (Sum.inr (l3', l4', h')) → J mX12_ways true 0 0 107 xKn [(0, xR 81), (1, xI l1), (2, xI l2), (3, xI l3'), (4, xI l4')] [] h' Q) : J mX12_ways true 0 0 37 xKn [(0, xR 81), (1, xI l1), (2, xI l2), (3, xI l3), (4, xI l4)] [] h Q := by
  unfold f_Md_ways_s37 at hf
  refine J_iload 4 dX12_ways_37 rfl ?_
  refine J_ldcw (v := 1000000) dX12_ways_39 xq1370 (by decide) ?_
  refine J_ic_ge (tgt := 83) dX12_ways_42 (by decide) (fun hc => ?_) (fun hc => ?_)
  · have hf := xip hc hf
    refine J_iload 4 dX12_ways_45 rfl ?_
    refine J_aload_n 0 dX12_ways_47 rfl rfl ?_
    refine J_getRl (j := 26) xcf12 dX12_ways_48 kO81 (Or.inl xq1046) (by decide) (by decide) rf_81_26 ?_
    refine J_bip dX12_ways_51 (by decide) ?_
    refine J_iload_n 1 dX12_ways_53 rfl rfl ?_
    refine J_aload_n 0 dX12_ways_54 rfl rfl ?_
    refine J_getI (j := 83) xcf12 dX12_ways_55 (xK_rg kO81) kO81 (Or.inl xq1103) (by decide) (by decide) ?_
    refine J_iadd dX12_ways_58 ?_
    refine J_imul dX12_ways_59 ?_
    refine J_iload_n 2 dX12_ways_60 rfl rfl ?_
    refine J_iadd dX12_ways_61 ?_
    refine J_aload_n 0 dX12_ways_62 rfl rfl ?_
    refine J_getI (j := 84) xcf12 dX12_ways_63 (xK_rg kO81) kO81 (Or.inl xq1104) (by decide) (by decide) ?_
    refine J_iadd dX12_ways_66 ?_
    obtain ⟨hg, hf⟩ := xgd_e hf
    refine J_iald dX12_ways_67 (xK_r1 kO99) kO99 hg nA99 ?_
    refine J_iadd dX12_ways_68 ?_
    refine J_aload_n 0 dX12_ways_69 rfl rfl ?_
    refine J_getRl (j := 26) xcf12 dX12_ways_70 kO81 (Or.inl xq1046) (by decide) (by decide) rf_81_26 ?_
    refine J_bip dX12_ways_73 (by decide) ?_
    refine J_iload_n 1 dX12_ways_75 rfl rfl ?_
    refine J_imul dX12_ways_76 ?_
    refine J_iload_n 2 dX12_ways_77 rfl rfl ?_
    refine J_iadd dX12_ways_78 ?_
    obtain ⟨hg, hf⟩ := xgd_e hf
    refine J_iald dX12_ways_79 (xK_r1 kO99) kO99 hg nA99 ?_
    refine J_ic_eq (tgt := 107) dX12_ways_80 (by decide) (fun hc => ?_) (fun hc => ?_)
    · have hf := xip hc hf
      exact ke _ _ _ (xinl hf)
    · have hf := xin' hc hf
      refine J_sub [0, 1, 2, 3] rfl ?_
      exact j_Md_ways_83  hf kb ke
  · have hf := xin' hc hf
    refine J_sub [0, 1, 2, 3] rfl ?_
    exact j_Md_ways_83  hf kb ke
theorem j_Md_ways_37 {l1 : Int} {l2 : Int} {l3 : Int} {l4 : Int} {h : xH} {x : ((Int × Int × xH) ⊕ xH)} {Q : xQ}  (hf : f_Md_ways_37 l1 l2 l3 l4 h = some x) (kb : ∀ (l1' : Int) (l2' : Int) (h' : xH), x = Sum.inl (l1', l2', h') → J mX12_ways true 0 0 9 xKn [(0, xR 81), (1, xI l1'), (2, xI l2')] [] h' Q) (ke : ∀  (h' : xH), x = (Sum.inr h') → J mX12_ways true 0 0 203 xKn [] [] h' Q) : J mX12_ways true 0 0 37 xKn [(0, xR 81), (1, xI l1), (2, xI l2), (3, xI l3), (4, xI l4)] [] h Q := by
  unfold f_Md_ways_37 at hf
  obtain ⟨b0, hb0, hf⟩ := xc1_e hf
  refine xloop_ind (P := fun s : (Int × Int × xH) => J mX12_ways true 0 0 37 xKn [(0, xR 81), (1, xI l1), (2, xI l2), (3, xI s.1), (4, xI s.2.1)] [] s.2.2 Q) hb0 (fun s x1 hs ib ie => ?_)
  exact j_Md_ways_s37  hs (fun _ _ _ e => ib _ e) (fun _ _ _ e => by have := ie _ e; subst this; exact j_Md_ways_107  hf kb ke)
theorem j_Md_ways_25 {l1 : Int} {l2 : Int} {h : xH} {x : ((Int × Int × xH) ⊕ xH)} {Q : xQ}  (hf : f_Md_ways_25 l1 l2 h = some x) (kb : ∀ (l1' : Int) (l2' : Int) (h' : xH), x = Sum.inl (l1', l2', h') → J mX12_ways true 0 0 9 xKn [(0, xR 81), (1, xI l1'), (2, xI l2')] [] h' Q) (ke : ∀  (h' : xH), x = (Sum.inr h') → J mX12_ways true 0 0 203 xKn [] [] h' Q) : J mX12_ways true 0 0 25 xKn [(0, xR 81), (1, xI l1), (2, xI l2)] [] h Q := by
  unfold f_Md_ways_25 at hf
  refine J_iconst dX12_ways_25 (by decide) ?_
  refine J_istore_n (ls' := [(3, xI 0), (0, xR 81), (1, xI l1), (2, xI l2)]) dX12_ways_26 rfl (by decide) rfl rfl ?_
  refine J_aload_n 1 dX12_ways_27 rfl rfl ?_
  refine J_iconst dX12_ways_28 (by decide) ?_
  refine J_iconst dX12_ways_29 (by decide) ?_
  refine J_iload_n 2 dX12_ways_30 rfl rfl ?_
  refine J_iload_n 3 dX12_ways_31 rfl rfl ?_
  obtain ⟨r1, h2, hq, hf⟩ := xc2_e hf
  refine J_cVi (Mc := mX12_slip) [xI 0, xI (-1), xI l1, xI l2] dX12_ways_32 (fc_Md_slip.fit ⟨xbl rfl, xbl rfl⟩) rfl ⟨Or.inl xq1371, xq1373, xq100⟩ kO81 (ci := 12) rfl rfl (xbl rfl) (xbl rfl) (jm_Md_slip  hq) ?_
  refine J_istore (ls' := [(4, xI r1), (3, xI 0), (0, xR 81), (1, xI l1), (2, xI l2)]) dX12_ways_35 (by decide) rfl rfl ?_
  refine J_sub [2, 3, 4, 1, 0] rfl ?_
  exact j_Md_ways_37  hf kb ke
theorem j_Md_ways_s9 {l1 : Int} {l2 : Int} {h : xH} {x : ((Int × Int × xH) ⊕ xH)} {Q : xQ}  (hf : f_Md_ways_s9 l1 l2 h = some x) (kb : ∀ (l1' : Int) (l2' : Int) (h' : xH), x = Sum.inl (l1', l2', h') → J mX12_ways true 0 0 9 xKn [(0, xR 81), (1, xI l1'), (2, xI l2')] [] h' Q) (ke : ∀  (h' : xH), x = (Sum.inr h') → J mX12_ways true 0 0 203 xKn [] [] h' Q) : J mX12_ways true 0 0 9 xKn [(0, xR 81), (1, xI l1), (2, xI l2)] [] h Q := by
  unfold f_Md_ways_s9 at hf
  refine J_iload_n 1 dX12_ways_9 rfl rfl ?_
  refine J_aload_n 0 dX12_ways_10 rfl rfl ?_
  refine J_getI (j := 22) xcf12 dX12_ways_11 (xK_rg kO81) kO81 (Or.inl xq1042) (by decide) (by decide) ?_
  refine J_ic_lt (tgt := 25) dX12_ways_14 (by decide) (fun hc => ?_) (fun hc => ?_)
  · have hf := xip hc hf
    exact j_Md_ways_25  hf kb ke
  · have hf := xin' hc hf
    refine J_iload_n 2 dX12_ways_17 rfl rfl ?_
    refine J_aload_n 0 dX12_ways_18 rfl rfl ?_
    refine J_getI (j := 23) xcf12 dX12_ways_19 (xK_rg kO81) kO81 (Or.inl xq1043) (by decide) (by decide) ?_
    refine J_ic_ge (tgt := 203) dX12_ways_22 (by decide) (fun hc => ?_) (fun hc => ?_)
    · have hf := xip hc hf
      exact j_Md_ways_25  hf kb ke
    · have hf := xin' hc hf
      refine J_sub [] rfl ?_
      exact ke _ (xinl hf)
theorem j_Md_ways_9 {l1 : Int} {l2 : Int} {h : xH} {h0 : xH}  (hf : f_Md_ways_9 l1 l2 h = some h0)  : J mX12_ways true 0 0 9 xKn [(0, xR 81), (1, xI l1), (2, xI l2)] [] h (xEq none h0) := by
  unfold f_Md_ways_9 at hf
  obtain ⟨b0, hb0, hf⟩ := xc1_e hf
  refine xloop_ind (P := fun s : (Int × Int × xH) => J mX12_ways true 0 0 9 xKn [(0, xR 81), (1, xI s.1), (2, xI s.2.1)] [] s.2.2 (xEq none h0)) hb0 (fun s x1 hs ib ie => ?_)
  exact j_Md_ways_s9  hs (fun _ _ _ e => ib _ e) (fun _ e => by have := ie _ e; subst this; exact j_Md_ways_203  hf)
theorem jm_Md_ways  {h : xH} {h0 : xH}  (hf : f_Md_ways h = some h0) : J mX12_ways true 0 0 0 xKn (xen 0 [xR 81]) [] h (xEq none h0) := by
  unfold f_Md_ways at hf
  refine J_cong (ls2 := [(0, xR 81)]) (st2 := []) rfl rfl ?_
  refine J_aload_n 0 dX12_ways_0 rfl rfl ?_
  refine J_iconst dX12_ways_1 (by decide) ?_
  obtain ⟨h1, eh1, hf⟩ := xlet_e hf
  refine J_putI (j := 27) xcf12 dX12_ways_2 (xK_rg kO81) kO81 (Or.inl xq1047) (by decide) (by decide) eh1 ?_
  refine J_iconst dX12_ways_5 (by decide) ?_
  refine J_istore_n (ls' := [(1, xI 0), (0, xR 81)]) dX12_ways_6 rfl (by decide) rfl rfl ?_
  refine J_iconst dX12_ways_7 (by decide) ?_
  refine J_istore_n (ls' := [(2, xI 0), (1, xI 0), (0, xR 81)]) dX12_ways_8 rfl (by decide) rfl rfl ?_
  refine J_sub [2, 1, 0] rfl ?_
  exact j_Md_ways_9  hf
theorem dX12_distance_0 : decode cX12_distance 0 = .ok (.aload_n 0, 1) := by decide +kernel
theorem dX12_distance_1 : decode cX12_distance 1 = .ok (.bipush 12, 2) := by decide +kernel
theorem dX12_distance_3 : decode cX12_distance 3 = .ok (.invokevirtual 281, 3) := by decide +kernel
theorem dX12_distance_6 : decode cX12_distance 6 = .ok (.ifCond .ne 6, 3) := by decide +kernel
theorem dX12_distance_9 : decode cX12_distance 9 = .ok (.bipush (-2), 2) := by decide +kernel
theorem dX12_distance_11 : decode cX12_distance 11 = .ok (.ireturn, 1) := by decide +kernel
theorem dX12_distance_12 : decode cX12_distance 12 = .ok (.aload_n 0, 1) := by decide +kernel
theorem dX12_distance_13 : decode cX12_distance 13 = .ok (.iconst 0, 1) := by decide +kernel
theorem dX12_distance_14 : decode cX12_distance 14 = .ok (.invokevirtual 322, 3) := by decide +kernel
theorem dX12_distance_17 : decode cX12_distance 17 = .ok (.aload_n 0, 1) := by decide +kernel
theorem dX12_distance_18 : decode cX12_distance 18 = .ok (.iconst 1, 1) := by decide +kernel
theorem dX12_distance_19 : decode cX12_distance 19 = .ok (.invokevirtual 326, 3) := by decide +kernel
theorem dX12_distance_22 : decode cX12_distance 22 = .ok (.aload_n 0, 1) := by decide +kernel
theorem dX12_distance_23 : decode cX12_distance 23 = .ok (.invokevirtual 329, 3) := by decide +kernel
theorem dX12_distance_26 : decode cX12_distance 26 = .ok (.aload_n 0, 1) := by decide +kernel
theorem dX12_distance_27 : decode cX12_distance 27 = .ok (.invokevirtual 332, 3) := by decide +kernel
theorem dX12_distance_30 : decode cX12_distance 30 = .ok (.aload_n 0, 1) := by decide +kernel
theorem dX12_distance_31 : decode cX12_distance 31 = .ok (.aload_n 0, 1) := by decide +kernel
theorem dX12_distance_32 : decode cX12_distance 32 = .ok (.getfield 319, 3) := by decide +kernel
theorem dX12_distance_35 : decode cX12_distance 35 = .ok (.putfield 86, 3) := by decide +kernel
theorem dX12_distance_38 : decode cX12_distance 38 = .ok (.iconst 0, 1) := by decide +kernel
theorem dX12_distance_39 : decode cX12_distance 39 = .ok (.istore_n 1, 1) := by decide +kernel
theorem dX12_distance_40 : decode cX12_distance 40 = .ok (.iload_n 1, 1) := by decide +kernel
theorem dX12_distance_41 : decode cX12_distance 41 = .ok (.aload_n 0, 1) := by decide +kernel
theorem dX12_distance_42 : decode cX12_distance 42 = .ok (.getfield 319, 3) := by decide +kernel
theorem dX12_distance_45 : decode cX12_distance 45 = .ok (.if_icmp .ge 69, 3) := by decide +kernel
theorem dX12_distance_48 : decode cX12_distance 48 = .ok (.aload_n 0, 1) := by decide +kernel
theorem dX12_distance_49 : decode cX12_distance 49 = .ok (.getfield 89, 3) := by decide +kernel
theorem dX12_distance_52 : decode cX12_distance 52 = .ok (.iload_n 1, 1) := by decide +kernel
theorem dX12_distance_53 : decode cX12_distance 53 = .ok (.aload_n 0, 1) := by decide +kernel
theorem dX12_distance_54 : decode cX12_distance 54 = .ok (.getfield 71, 3) := by decide +kernel
theorem dX12_distance_57 : decode cX12_distance 57 = .ok (.iload_n 1, 1) := by decide +kernel
theorem dX12_distance_58 : decode cX12_distance 58 = .ok (.iaload, 1) := by decide +kernel
theorem dX12_distance_59 : decode cX12_distance 59 = .ok (.iastore, 1) := by decide +kernel
theorem dX12_distance_60 : decode cX12_distance 60 = .ok (.aload_n 0, 1) := by decide +kernel
theorem dX12_distance_61 : decode cX12_distance 61 = .ok (.getfield 92, 3) := by decide +kernel
theorem dX12_distance_64 : decode cX12_distance 64 = .ok (.iload_n 1, 1) := by decide +kernel
theorem dX12_distance_65 : decode cX12_distance 65 = .ok (.aload_n 0, 1) := by decide +kernel
theorem dX12_distance_66 : decode cX12_distance 66 = .ok (.getfield 74, 3) := by decide +kernel
theorem dX12_distance_69 : decode cX12_distance 69 = .ok (.iload_n 1, 1) := by decide +kernel
theorem dX12_distance_70 : decode cX12_distance 70 = .ok (.iaload, 1) := by decide +kernel
theorem dX12_distance_71 : decode cX12_distance 71 = .ok (.iastore, 1) := by decide +kernel
theorem dX12_distance_72 : decode cX12_distance 72 = .ok (.aload_n 0, 1) := by decide +kernel
theorem dX12_distance_73 : decode cX12_distance 73 = .ok (.getfield 95, 3) := by decide +kernel
theorem dX12_distance_76 : decode cX12_distance 76 = .ok (.iload_n 1, 1) := by decide +kernel
theorem dX12_distance_77 : decode cX12_distance 77 = .ok (.aload_n 0, 1) := by decide +kernel
theorem dX12_distance_78 : decode cX12_distance 78 = .ok (.getfield 77, 3) := by decide +kernel
theorem dX12_distance_81 : decode cX12_distance 81 = .ok (.iload_n 1, 1) := by decide +kernel
theorem dX12_distance_82 : decode cX12_distance 82 = .ok (.iaload, 1) := by decide +kernel
theorem dX12_distance_83 : decode cX12_distance 83 = .ok (.iastore, 1) := by decide +kernel
theorem dX12_distance_84 : decode cX12_distance 84 = .ok (.aload_n 0, 1) := by decide +kernel
theorem dX12_distance_85 : decode cX12_distance 85 = .ok (.getfield 98, 3) := by decide +kernel
theorem dX12_distance_88 : decode cX12_distance 88 = .ok (.iload_n 1, 1) := by decide +kernel
theorem dX12_distance_89 : decode cX12_distance 89 = .ok (.aload_n 0, 1) := by decide +kernel
theorem dX12_distance_90 : decode cX12_distance 90 = .ok (.getfield 80, 3) := by decide +kernel
theorem dX12_distance_93 : decode cX12_distance 93 = .ok (.iload_n 1, 1) := by decide +kernel
theorem dX12_distance_94 : decode cX12_distance 94 = .ok (.iaload, 1) := by decide +kernel
theorem dX12_distance_95 : decode cX12_distance 95 = .ok (.iastore, 1) := by decide +kernel
theorem dX12_distance_96 : decode cX12_distance 96 = .ok (.aload_n 0, 1) := by decide +kernel
theorem dX12_distance_97 : decode cX12_distance 97 = .ok (.getfield 101, 3) := by decide +kernel
theorem dX12_distance_100 : decode cX12_distance 100 = .ok (.iload_n 1, 1) := by decide +kernel
theorem dX12_distance_101 : decode cX12_distance 101 = .ok (.aload_n 0, 1) := by decide +kernel
theorem dX12_distance_102 : decode cX12_distance 102 = .ok (.getfield 83, 3) := by decide +kernel
theorem dX12_distance_105 : decode cX12_distance 105 = .ok (.iload_n 1, 1) := by decide +kernel
theorem dX12_distance_106 : decode cX12_distance 106 = .ok (.iaload, 1) := by decide +kernel
theorem dX12_distance_107 : decode cX12_distance 107 = .ok (.iastore, 1) := by decide +kernel
theorem dX12_distance_108 : decode cX12_distance 108 = .ok (.iinc 1 1, 3) := by decide +kernel
theorem dX12_distance_111 : decode cX12_distance 111 = .ok (.goto (-71), 3) := by decide +kernel
theorem dX12_distance_114 : decode cX12_distance 114 = .ok (.aload_n 0, 1) := by decide +kernel
theorem dX12_distance_115 : decode cX12_distance 115 = .ok (.getfield 68, 3) := by decide +kernel
theorem dX12_distance_118 : decode cX12_distance 118 = .ok (.iconst 0, 1) := by decide +kernel
theorem dX12_distance_119 : decode cX12_distance 119 = .ok (.iaload, 1) := by decide +kernel
theorem dX12_distance_120 : decode cX12_distance 120 = .ok (.ireturn, 1) := by decide +kernel
theorem j_Md_distance_114  {h : xH} {r0 : Int} {h0 : xH}  (hf : f_Md_distance_114 h = some (r0, h0))  : J mX12_distance true 0 0 114 xKn [(0, xR 81)] [] h (xEq (some r0) h0) := by
  unfold f_Md_distance_114 at hf
  refine J_aload_n 0 dX12_distance_114 rfl rfl ?_
  refine J_getRl (j := 26) xcf12 dX12_distance_115 kO81 (Or.inl xq1046) (by decide) (by decide) rf_81_26 ?_
  refine J_iconst dX12_distance_118 (by decide) ?_
  obtain ⟨hg, hf⟩ := xgd_e hf
  refine J_iald dX12_distance_119 (xK_r1 kO99) kO99 hg nA99 ?_
  exact J_ireti dX12_distance_120 rfl (xq_i hf)
theorem j_Md_distance_s40 {l1 : Int} {h : xH} {x : ((Int × xH) ⊕ xH)} {Q : xQ}  (hf : f_Md_distance_s40 l1 h = some x) (kb : ∀ (l1' : Int) (h' : xH), x = Sum.inl (l1', h') → J mX12_distance true 0 0 40 xKn [(0, xR 81), (1, xI l1')] [] h' Q) (ke : ∀  (h' : xH), x = (Sum.inr h') → J mX12_distance true 0 0 114 xKn [(0, xR 81)] [] h' Q) : J mX12_distance true 0 0 40 xKn [(0, xR 81), (1, xI l1)] [] h Q := by
  unfold f_Md_distance_s40 at hf
  refine J_iload_n 1 dX12_distance_40 rfl rfl ?_
  refine J_aload_n 0 dX12_distance_41 rfl rfl ?_
  refine J_getI (j := 27) xcf12 dX12_distance_42 (xK_rg kO81) kO81 (Or.inl xq1047) (by decide) (by decide) ?_
  refine J_ic_ge (tgt := 114) dX12_distance_45 (by decide) (fun hc => ?_) (fun hc => ?_)
  · have hf := xip hc hf
    refine J_aload_n 0 dX12_distance_48 rfl rfl ?_
    refine J_getRl (j := 34) xcf12 dX12_distance_49 kO81 (Or.inl xq1054) (by decide) (by decide) rf_81_34 ?_
    refine J_iload_n 1 dX12_distance_52 rfl rfl ?_
    refine J_aload_n 0 dX12_distance_53 rfl rfl ?_
    refine J_getRl (j := 28) xcf12 dX12_distance_54 kO81 (Or.inl xq1048) (by decide) (by decide) rf_81_28 ?_
    refine J_iload_n 1 dX12_distance_57 rfl rfl ?_
    obtain ⟨hg, hf⟩ := xgd_e hf
    refine J_iald dX12_distance_58 (xK_r1 kO100) kO100 hg nA100 ?_
    obtain ⟨hg, hf⟩ := xgd_e hf
    obtain ⟨h1, eh1, hf⟩ := xlet_e hf
    refine J_iast dX12_distance_59 (xK_r1 kO105) kO105 hg nA105 eh1 ?_
    refine J_aload_n 0 dX12_distance_60 rfl rfl ?_
    refine J_getRl (j := 35) xcf12 dX12_distance_61 kO81 (Or.inl xq1055) (by decide) (by decide) rf_81_35 ?_
    refine J_iload_n 1 dX12_distance_64 rfl rfl ?_
    refine J_aload_n 0 dX12_distance_65 rfl rfl ?_
    refine J_getRl (j := 29) xcf12 dX12_distance_66 kO81 (Or.inl xq1049) (by decide) (by decide) rf_81_29 ?_
    refine J_iload_n 1 dX12_distance_69 rfl rfl ?_
    obtain ⟨hg, hf⟩ := xgd_e hf
    refine J_iald dX12_distance_70 (xK_r1 kO101) kO101 hg nA101 ?_
    obtain ⟨hg, hf⟩ := xgd_e hf
    obtain ⟨h2, eh2, hf⟩ := xlet_e hf
    refine J_iast dX12_distance_71 (xK_r1 kO106) kO106 hg nA106 eh2 ?_
    refine J_aload_n 0 dX12_distance_72 rfl rfl ?_
    refine J_getRl (j := 36) xcf12 dX12_distance_73 kO81 (Or.inl xq1056) (by decide) (by decide) rf_81_36 ?_
    refine J_iload_n 1 dX12_distance_76 rfl rfl ?_
    refine J_aload_n 0 dX12_distance_77 rfl rfl ?_
    refine J_getRl (j := 30) xcf12 dX12_distance_78 kO81 (Or.inl xq1050) (by decide) (by decide) rf_81_30 ?_
    refine J_iload_n 1 dX12_distance_81 rfl rfl ?_
    obtain ⟨hg, hf⟩ := xgd_e hf
    refine J_iald dX12_distance_82 (xK_r1 kO102) kO102 hg nA102 ?_
    obtain ⟨hg, hf⟩ := xgd_e hf
    obtain ⟨h3, eh3, hf⟩ := xlet_e hf
    refine J_iast dX12_distance_83 (xK_r1 kO107) kO107 hg nA107 eh3 ?_
    refine J_aload_n 0 dX12_distance_84 rfl rfl ?_
    refine J_getRl (j := 37) xcf12 dX12_distance_85 kO81 (Or.inl xq1057) (by decide) (by decide) rf_81_37 ?_
    refine J_iload_n 1 dX12_distance_88 rfl rfl ?_
    refine J_aload_n 0 dX12_distance_89 rfl rfl ?_
    refine J_getRl (j := 31) xcf12 dX12_distance_90 kO81 (Or.inl xq1051) (by decide) (by decide) rf_81_31 ?_
    refine J_iload_n 1 dX12_distance_93 rfl rfl ?_
    obtain ⟨hg, hf⟩ := xgd_e hf
    refine J_iald dX12_distance_94 (xK_r1 kO103) kO103 hg nA103 ?_
    obtain ⟨hg, hf⟩ := xgd_e hf
    obtain ⟨h4, eh4, hf⟩ := xlet_e hf
    refine J_iast dX12_distance_95 (xK_r1 kO108) kO108 hg nA108 eh4 ?_
    refine J_aload_n 0 dX12_distance_96 rfl rfl ?_
    refine J_getRl (j := 38) xcf12 dX12_distance_97 kO81 (Or.inl xq1058) (by decide) (by decide) rf_81_38 ?_
    refine J_iload_n 1 dX12_distance_100 rfl rfl ?_
    refine J_aload_n 0 dX12_distance_101 rfl rfl ?_
    refine J_getRl (j := 32) xcf12 dX12_distance_102 kO81 (Or.inl xq1052) (by decide) (by decide) rf_81_32 ?_
    refine J_iload_n 1 dX12_distance_105 rfl rfl ?_
    obtain ⟨hg, hf⟩ := xgd_e hf
    refine J_iald dX12_distance_106 (xK_r1 kO104) kO104 hg nA104 ?_
    obtain ⟨hg, hf⟩ := xgd_e hf
    obtain ⟨h5, eh5, hf⟩ := xlet_e hf
    refine J_iast dX12_distance_107 (xK_r1 kO109) kO109 hg nA109 eh5 ?_
    obtain ⟨x6, ex6, hf⟩ := xlet_e hf
    refine J_iinc (ls' := [(1, xI x6), (0, xR 81)]) 1 dX12_distance_108 rfl (by decide) ex6 rfl ?_
    refine J_goto (tgt := 40) dX12_distance_111 (by decide) ?_
    refine J_sub [1, 0] rfl ?_
    exact kb _ _ (xinl hf)
  · have hf := xin' hc hf
    refine J_sub [0] rfl ?_
    exact ke _ (xinl hf)
theorem j_Md_distance_40 {l1 : Int} {h : xH} {r0 : Int} {h0 : xH}  (hf : f_Md_distance_40 l1 h = some (r0, h0))  : J mX12_distance true 0 0 40 xKn [(0, xR 81), (1, xI l1)] [] h (xEq (some r0) h0) := by
  unfold f_Md_distance_40 at hf
  obtain ⟨b0, hb0, hf⟩ := xc1_e hf
  refine xloop_ind (P := fun s : (Int × xH) => J mX12_distance true 0 0 40 xKn [(0, xR 81), (1, xI s.1)] [] s.2 (xEq (some r0) h0)) hb0 (fun s x1 hs ib ie => ?_)
  exact j_Md_distance_s40  hs (fun _ _ e => ib _ e) (fun _ e => by have := ie _ e; subst this; exact j_Md_distance_114  hf)
theorem jm_Md_distance  {h : xH} {r0 : Int} {h0 : xH}  (hf : f_Md_distance h = some (r0, h0)) : J mX12_distance true 0 0 0 xKn (xen 0 [xR 81]) [] h (xEq (some r0) h0) := by
  unfold f_Md_distance at hf
  refine J_cong (ls2 := [(0, xR 81)]) (st2 := []) rfl rfl ?_
  refine J_aload_n 0 dX12_distance_0 rfl rfl ?_
  refine J_bip dX12_distance_1 (by decide) ?_
  obtain ⟨r1, h2, hq, hf⟩ := xc2_e hf
  refine J_cVi (Mc := mX12_readsTwo) [xI 12] dX12_distance_3 (fc_Md_readsTwo.fit ⟨xbl rfl, xbl rfl⟩) rfl ⟨Or.inl xq1346, xq1348, xq96⟩ kO81 (ci := 12) rfl rfl (xbl rfl) (xbl rfl) (jm_Md_readsTwo  hq) ?_
  refine J_if_ne (tgt := 12) dX12_distance_6 (by decide) (fun hc => ?_) (fun hc => ?_)
  · have hf := xip hc hf
    refine J_bip dX12_distance_9 (by decide) ?_
    exact J_ireti dX12_distance_11 rfl (xq_i hf)
  · have hf := xin' hc hf
    refine J_aload_n 0 dX12_distance_12 rfl rfl ?_
    refine J_iconst dX12_distance_13 (by decide) ?_
    obtain ⟨h3, hq, hf⟩ := xc1_e hf
    refine J_cVv (Mc := mX12_takeA) [xI 0] dX12_distance_14 (fc_Md_takeA.fit ⟨xbl rfl, xbl rfl⟩) rfl ⟨Or.inl xq1358, xq1360, xq97⟩ kO81 (ci := 12) rfl rfl (xbl rfl) (xbl rfl) (jm_Md_takeA  hq) ?_
    refine J_aload_n 0 dX12_distance_17 rfl rfl ?_
    refine J_iconst dX12_distance_18 (by decide) ?_
    obtain ⟨h4, hq, hf⟩ := xc1_e hf
    refine J_cVv (Mc := mX12_takeB) [xI 1] dX12_distance_19 (fc_Md_takeB.fit ⟨xbl rfl, xbl rfl⟩) rfl ⟨Or.inl xq1362, xq1364, xq98⟩ kO81 (ci := 12) rfl rfl (xbl rfl) (xbl rfl) (jm_Md_takeB  hq) ?_
    refine J_aload_n 0 dX12_distance_22 rfl rfl ?_
    obtain ⟨h5, hq, hf⟩ := xc1_e hf
    refine J_cVv (Mc := mX12_sums) [] dX12_distance_23 (fc_Md_sums.fit ⟨xbl rfl, xbl rfl⟩) rfl ⟨Or.inl xq1366, xq1368, xq99⟩ kO81 (ci := 12) rfl rfl (xbl rfl) (xbl rfl) (jm_Md_sums  hq) ?_
    refine J_aload_n 0 dX12_distance_26 rfl rfl ?_
    obtain ⟨h6, hq, hf⟩ := xc1_e hf
    refine J_cVv (Mc := mX12_ways) [] dX12_distance_27 (fc_Md_ways.fit ⟨xbl rfl, xbl rfl⟩) rfl ⟨Or.inl xq1391, xq1393, xq105⟩ kO81 (ci := 12) rfl rfl (xbl rfl) (xbl rfl) (jm_Md_ways  hq) ?_
    refine J_aload_n 0 dX12_distance_30 rfl rfl ?_
    refine J_aload_n 0 dX12_distance_31 rfl rfl ?_
    refine J_getI (j := 27) xcf12 dX12_distance_32 (xK_rg kO81) kO81 (Or.inl xq1047) (by decide) (by decide) ?_
    obtain ⟨h7, eh7, hf⟩ := xlet_e hf
    refine J_putI (j := 33) xcf12 dX12_distance_35 (xK_rg kO81) kO81 (Or.inl xq1053) (by decide) (by decide) eh7 ?_
    refine J_iconst dX12_distance_38 (by decide) ?_
    refine J_istore_n (ls' := [(1, xI 0), (0, xR 81)]) dX12_distance_39 rfl (by decide) rfl rfl ?_
    refine J_sub [1, 0] rfl ?_
    exact j_Md_distance_40  hf
theorem dX12_way_0 : decode cX12_way 0 = .ok (.iload_n 2, 1) := by decide +kernel
theorem dX12_way_1 : decode cX12_way 1 = .ok (.iconst 0, 1) := by decide +kernel
theorem dX12_way_2 : decode cX12_way 2 = .ok (.iconst 4, 1) := by decide +kernel
theorem dX12_way_3 : decode cX12_way 3 = .ok (.invokestatic 215, 3) := by decide +kernel
theorem dX12_way_6 : decode cX12_way 6 = .ok (.ifCond .ne 6, 3) := by decide +kernel
theorem dX12_way_9 : decode cX12_way 9 = .ok (.bipush (-2), 2) := by decide +kernel
theorem dX12_way_11 : decode cX12_way 11 = .ok (.ireturn, 1) := by decide +kernel
theorem dX12_way_12 : decode cX12_way 12 = .ok (.aload_n 0, 1) := by decide +kernel
theorem dX12_way_13 : decode cX12_way 13 = .ok (.getfield 86, 3) := by decide +kernel
theorem dX12_way_16 : decode cX12_way 16 = .ok (.iconst (-1), 1) := by decide +kernel
theorem dX12_way_17 : decode cX12_way 17 = .ok (.if_icmp .ne 14, 3) := by decide +kernel
theorem dX12_way_20 : decode cX12_way 20 = .ok (.iload_n 1, 1) := by decide +kernel
theorem dX12_way_21 : decode cX12_way 21 = .ok (.iconst (-1), 1) := by decide +kernel
theorem dX12_way_22 : decode cX12_way 22 = .ok (.if_icmp .ne 7, 3) := by decide +kernel
theorem dX12_way_25 : decode cX12_way 25 = .ok (.iconst 0, 1) := by decide +kernel
theorem dX12_way_26 : decode cX12_way 26 = .ok (.goto 4, 3) := by decide +kernel
theorem dX12_way_29 : decode cX12_way 29 = .ok (.iconst (-1), 1) := by decide +kernel
theorem dX12_way_30 : decode cX12_way 30 = .ok (.ireturn, 1) := by decide +kernel
theorem dX12_way_31 : decode cX12_way 31 = .ok (.iload_n 1, 1) := by decide +kernel
theorem dX12_way_32 : decode cX12_way 32 = .ok (.iconst (-1), 1) := by decide +kernel
theorem dX12_way_33 : decode cX12_way 33 = .ok (.if_icmp .ne 8, 3) := by decide +kernel
theorem dX12_way_36 : decode cX12_way 36 = .ok (.aload_n 0, 1) := by decide +kernel
theorem dX12_way_37 : decode cX12_way 37 = .ok (.getfield 86, 3) := by decide +kernel
theorem dX12_way_40 : decode cX12_way 40 = .ok (.ireturn, 1) := by decide +kernel
theorem dX12_way_41 : decode cX12_way 41 = .ok (.iload_n 1, 1) := by decide +kernel
theorem dX12_way_42 : decode cX12_way 42 = .ok (.iconst 0, 1) := by decide +kernel
theorem dX12_way_43 : decode cX12_way 43 = .ok (.aload_n 0, 1) := by decide +kernel
theorem dX12_way_44 : decode cX12_way 44 = .ok (.getfield 86, 3) := by decide +kernel
theorem dX12_way_47 : decode cX12_way 47 = .ok (.iconst 1, 1) := by decide +kernel
theorem dX12_way_48 : decode cX12_way 48 = .ok (.isub, 1) := by decide +kernel
theorem dX12_way_49 : decode cX12_way 49 = .ok (.invokestatic 215, 3) := by decide +kernel
theorem dX12_way_52 : decode cX12_way 52 = .ok (.ifCond .ne 5, 3) := by decide +kernel
theorem dX12_way_55 : decode cX12_way 55 = .ok (.iconst (-1), 1) := by decide +kernel
theorem dX12_way_56 : decode cX12_way 56 = .ok (.ireturn, 1) := by decide +kernel
theorem dX12_way_57 : decode cX12_way 57 = .ok (.iload_n 2, 1) := by decide +kernel
theorem dX12_way_58 : decode cX12_way 58 = .ok (.ifCond .ne 12, 3) := by decide +kernel
theorem dX12_way_61 : decode cX12_way 61 = .ok (.aload_n 0, 1) := by decide +kernel
theorem dX12_way_62 : decode cX12_way 62 = .ok (.getfield 89, 3) := by decide +kernel
theorem dX12_way_65 : decode cX12_way 65 = .ok (.iload_n 1, 1) := by decide +kernel
theorem dX12_way_66 : decode cX12_way 66 = .ok (.iaload, 1) := by decide +kernel
theorem dX12_way_67 : decode cX12_way 67 = .ok (.goto 51, 3) := by decide +kernel
theorem dX12_way_70 : decode cX12_way 70 = .ok (.iload_n 2, 1) := by decide +kernel
theorem dX12_way_71 : decode cX12_way 71 = .ok (.iconst 1, 1) := by decide +kernel
theorem dX12_way_72 : decode cX12_way 72 = .ok (.if_icmp .ne 12, 3) := by decide +kernel
theorem dX12_way_75 : decode cX12_way 75 = .ok (.aload_n 0, 1) := by decide +kernel
theorem dX12_way_76 : decode cX12_way 76 = .ok (.getfield 92, 3) := by decide +kernel
theorem dX12_way_79 : decode cX12_way 79 = .ok (.iload_n 1, 1) := by decide +kernel
theorem dX12_way_80 : decode cX12_way 80 = .ok (.iaload, 1) := by decide +kernel
theorem dX12_way_81 : decode cX12_way 81 = .ok (.goto 37, 3) := by decide +kernel
theorem dX12_way_84 : decode cX12_way 84 = .ok (.iload_n 2, 1) := by decide +kernel
theorem dX12_way_85 : decode cX12_way 85 = .ok (.iconst 2, 1) := by decide +kernel
theorem dX12_way_86 : decode cX12_way 86 = .ok (.if_icmp .ne 12, 3) := by decide +kernel
theorem dX12_way_89 : decode cX12_way 89 = .ok (.aload_n 0, 1) := by decide +kernel
theorem dX12_way_90 : decode cX12_way 90 = .ok (.getfield 95, 3) := by decide +kernel
theorem dX12_way_93 : decode cX12_way 93 = .ok (.iload_n 1, 1) := by decide +kernel
theorem dX12_way_94 : decode cX12_way 94 = .ok (.iaload, 1) := by decide +kernel
theorem dX12_way_95 : decode cX12_way 95 = .ok (.goto 23, 3) := by decide +kernel
theorem dX12_way_98 : decode cX12_way 98 = .ok (.iload_n 2, 1) := by decide +kernel
theorem dX12_way_99 : decode cX12_way 99 = .ok (.iconst 3, 1) := by decide +kernel
theorem dX12_way_100 : decode cX12_way 100 = .ok (.if_icmp .ne 12, 3) := by decide +kernel
theorem dX12_way_103 : decode cX12_way 103 = .ok (.aload_n 0, 1) := by decide +kernel
theorem dX12_way_104 : decode cX12_way 104 = .ok (.getfield 98, 3) := by decide +kernel
theorem dX12_way_107 : decode cX12_way 107 = .ok (.iload_n 1, 1) := by decide +kernel
theorem dX12_way_108 : decode cX12_way 108 = .ok (.iaload, 1) := by decide +kernel
theorem dX12_way_109 : decode cX12_way 109 = .ok (.goto 9, 3) := by decide +kernel
theorem dX12_way_112 : decode cX12_way 112 = .ok (.aload_n 0, 1) := by decide +kernel
theorem dX12_way_113 : decode cX12_way 113 = .ok (.getfield 101, 3) := by decide +kernel
theorem dX12_way_116 : decode cX12_way 116 = .ok (.iload_n 1, 1) := by decide +kernel
theorem dX12_way_117 : decode cX12_way 117 = .ok (.iaload, 1) := by decide +kernel
theorem dX12_way_118 : decode cX12_way 118 = .ok (.ireturn, 1) := by decide +kernel
theorem jm_Md_way {l1 : Int} {l2 : Int} {h : xH} {r0 : Int}  (hf : f_Md_way l1 l2 h = some r0) : J mX12_way true 0 0 0 xKn (xen 0 [xR 81, xI l1, xI l2]) [] h (xEq (some r0) h) := by
  unfold f_Md_way at hf
  refine J_cong (ls2 := [(0, xR 81), (1, xI l1), (2, xI l2)]) (st2 := []) rfl rfl ?_
  refine J_iload_n 2 dX12_way_0 rfl rfl ?_
  refine J_iconst dX12_way_1 (by decide) ?_
  refine J_iconst dX12_way_2 (by decide) ?_
  obtain ⟨r1, hq, hf⟩ := xc1_e hf
  refine J_cSi (Mc := mX12_in) [xI l2, xI 0, xI 4] dX12_way_3 (fc_Md_in.fit ⟨xbl rfl, xbl rfl⟩) rfl ⟨Or.inl xq1283, xq1284⟩ rfl (xbl rfl) (xbl rfl) (jm_Md_in  hq) ?_
  refine J_if_ne (tgt := 12) dX12_way_6 (by decide) (fun hc => ?_) (fun hc => ?_)
  · have hf := xip hc hf
    refine J_bip dX12_way_9 (by decide) ?_
    exact J_ireti dX12_way_11 rfl (xq_p hf)
  · have hf := xin' hc hf
    refine J_aload_n 0 dX12_way_12 rfl rfl ?_
    refine J_getI (j := 33) xcf12 dX12_way_13 (xK_rg kO81) kO81 (Or.inl xq1053) (by decide) (by decide) ?_
    refine J_iconst dX12_way_16 (by decide) ?_
    refine J_ic_ne (tgt := 31) dX12_way_17 (by decide) (fun hc => ?_) (fun hc => ?_)
    · have hf := xip hc hf
      refine J_iload_n 1 dX12_way_20 rfl rfl ?_
      refine J_iconst dX12_way_21 (by decide) ?_
      refine J_ic_ne (tgt := 29) dX12_way_22 (by decide) (fun hc => ?_) (fun hc => ?_)
      · have hf := xip hc hf
        refine J_iconst dX12_way_25 (by decide) ?_
        refine J_goto (tgt := 30) dX12_way_26 (by decide) ?_
        exact J_ireti dX12_way_30 rfl (xq_p hf)
      · have hf := xin' hc hf
        refine J_iconst dX12_way_29 (by decide) ?_
        exact J_ireti dX12_way_30 rfl (xq_p hf)
    · have hf := xin' hc hf
      refine J_iload_n 1 dX12_way_31 rfl rfl ?_
      refine J_iconst dX12_way_32 (by decide) ?_
      refine J_ic_ne (tgt := 41) dX12_way_33 (by decide) (fun hc => ?_) (fun hc => ?_)
      · have hf := xip hc hf
        refine J_aload_n 0 dX12_way_36 rfl rfl ?_
        refine J_getI (j := 33) xcf12 dX12_way_37 (xK_rg kO81) kO81 (Or.inl xq1053) (by decide) (by decide) ?_
        exact J_ireti dX12_way_40 rfl (xq_p hf)
      · have hf := xin' hc hf
        refine J_iload_n 1 dX12_way_41 rfl rfl ?_
        refine J_iconst dX12_way_42 (by decide) ?_
        refine J_aload_n 0 dX12_way_43 rfl rfl ?_
        refine J_getI (j := 33) xcf12 dX12_way_44 (xK_rg kO81) kO81 (Or.inl xq1053) (by decide) (by decide) ?_
        refine J_iconst dX12_way_47 (by decide) ?_
        refine J_isub dX12_way_48 ?_
        obtain ⟨r2, hq, hf⟩ := xc1_e hf
        refine J_cSi (Mc := mX12_in) [xI l1, xI 0, xI (w32 ((h 81 33) - 1))] dX12_way_49 (fc_Md_in.fit ⟨xbl rfl, xbl rfl⟩) rfl ⟨Or.inl xq1283, xq1284⟩ rfl (xbl rfl) (xbl rfl) (jm_Md_in  hq) ?_
        refine J_if_ne (tgt := 57) dX12_way_52 (by decide) (fun hc => ?_) (fun hc => ?_)
        · have hf := xip hc hf
          refine J_iconst dX12_way_55 (by decide) ?_
          exact J_ireti dX12_way_56 rfl (xq_p hf)
        · have hf := xin' hc hf
          refine J_iload_n 2 dX12_way_57 rfl rfl ?_
          refine J_if_ne (tgt := 70) dX12_way_58 (by decide) (fun hc => ?_) (fun hc => ?_)
          · have hf := xip hc hf
            refine J_aload_n 0 dX12_way_61 rfl rfl ?_
            refine J_getRl (j := 34) xcf12 dX12_way_62 kO81 (Or.inl xq1054) (by decide) (by decide) rf_81_34 ?_
            refine J_iload_n 1 dX12_way_65 rfl rfl ?_
            obtain ⟨hg, hf⟩ := xgd_e hf
            refine J_iald dX12_way_66 (xK_r1 kO105) kO105 hg nA105 ?_
            refine J_goto (tgt := 118) dX12_way_67 (by decide) ?_
            exact J_ireti dX12_way_118 rfl (xq_p hf)
          · have hf := xin' hc hf
            refine J_iload_n 2 dX12_way_70 rfl rfl ?_
            refine J_iconst dX12_way_71 (by decide) ?_
            refine J_ic_ne (tgt := 84) dX12_way_72 (by decide) (fun hc => ?_) (fun hc => ?_)
            · have hf := xip hc hf
              refine J_aload_n 0 dX12_way_75 rfl rfl ?_
              refine J_getRl (j := 35) xcf12 dX12_way_76 kO81 (Or.inl xq1055) (by decide) (by decide) rf_81_35 ?_
              refine J_iload_n 1 dX12_way_79 rfl rfl ?_
              obtain ⟨hg, hf⟩ := xgd_e hf
              refine J_iald dX12_way_80 (xK_r1 kO106) kO106 hg nA106 ?_
              refine J_goto (tgt := 118) dX12_way_81 (by decide) ?_
              exact J_ireti dX12_way_118 rfl (xq_p hf)
            · have hf := xin' hc hf
              refine J_iload_n 2 dX12_way_84 rfl rfl ?_
              refine J_iconst dX12_way_85 (by decide) ?_
              refine J_ic_ne (tgt := 98) dX12_way_86 (by decide) (fun hc => ?_) (fun hc => ?_)
              · have hf := xip hc hf
                refine J_aload_n 0 dX12_way_89 rfl rfl ?_
                refine J_getRl (j := 36) xcf12 dX12_way_90 kO81 (Or.inl xq1056) (by decide) (by decide) rf_81_36 ?_
                refine J_iload_n 1 dX12_way_93 rfl rfl ?_
                obtain ⟨hg, hf⟩ := xgd_e hf
                refine J_iald dX12_way_94 (xK_r1 kO107) kO107 hg nA107 ?_
                refine J_goto (tgt := 118) dX12_way_95 (by decide) ?_
                exact J_ireti dX12_way_118 rfl (xq_p hf)
              · have hf := xin' hc hf
                refine J_iload_n 2 dX12_way_98 rfl rfl ?_
                refine J_iconst dX12_way_99 (by decide) ?_
                refine J_ic_ne (tgt := 112) dX12_way_100 (by decide) (fun hc => ?_) (fun hc => ?_)
                · have hf := xip hc hf
                  refine J_aload_n 0 dX12_way_103 rfl rfl ?_
                  refine J_getRl (j := 37) xcf12 dX12_way_104 kO81 (Or.inl xq1057) (by decide) (by decide) rf_81_37 ?_
                  refine J_iload_n 1 dX12_way_107 rfl rfl ?_
                  obtain ⟨hg, hf⟩ := xgd_e hf
                  refine J_iald dX12_way_108 (xK_r1 kO108) kO108 hg nA108 ?_
                  refine J_goto (tgt := 118) dX12_way_109 (by decide) ?_
                  exact J_ireti dX12_way_118 rfl (xq_p hf)
                · have hf := xin' hc hf
                  refine J_aload_n 0 dX12_way_112 rfl rfl ?_
                  refine J_getRl (j := 38) xcf12 dX12_way_113 kO81 (Or.inl xq1058) (by decide) (by decide) rf_81_38 ?_
                  refine J_iload_n 1 dX12_way_116 rfl rfl ?_
                  obtain ⟨hg, hf⟩ := xgd_e hf
                  refine J_iald dX12_way_117 (xK_r1 kO109) kO109 hg nA109 ?_
                  exact J_ireti dX12_way_118 rfl (xq_p hf)
