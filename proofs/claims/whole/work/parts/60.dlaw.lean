/-! ===== the law: decoded, and its links ===== -/
theorem dL_law_0 : decode cL_law 0 = .ok (.new 7, 3) := by decide +kernel
theorem dL_law_3 : decode cL_law 3 = .ok (.dup, 1) := by decide +kernel
theorem dL_law_4 : decode cL_law 4 = .ok (.invokespecial 9, 3) := by decide +kernel
theorem dL_law_7 : decode cL_law 7 = .ok (.astore_n 1, 1) := by decide +kernel
theorem dL_law_8 : decode cL_law 8 = .ok (.new 10, 3) := by decide +kernel
theorem dL_law_11 : decode cL_law 11 = .ok (.dup, 1) := by decide +kernel
theorem dL_law_12 : decode cL_law 12 = .ok (.invokespecial 12, 3) := by decide +kernel
theorem dL_law_15 : decode cL_law 15 = .ok (.astore_n 2, 1) := by decide +kernel
theorem dL_law_16 : decode cL_law 16 = .ok (.iconst 0, 1) := by decide +kernel
theorem dL_law_17 : decode cL_law 17 = .ok (.istore_n 3, 1) := by decide +kernel
theorem dL_law_18 : decode cL_law 18 = .ok (.iload_n 3, 1) := by decide +kernel
theorem dL_law_19 : decode cL_law 19 = .ok (.aload_n 0, 1) := by decide +kernel
theorem dL_law_20 : decode cL_law 20 = .ok (.arraylength, 1) := by decide +kernel
theorem dL_law_21 : decode cL_law 21 = .ok (.iconst 5, 1) := by decide +kernel
theorem dL_law_22 : decode cL_law 22 = .ok (.isub, 1) := by decide +kernel
theorem dL_law_23 : decode cL_law 23 = .ok (.if_icmp .gt 870, 3) := by decide +kernel
theorem dL_law_26 : decode cL_law 26 = .ok (.aload_n 0, 1) := by decide +kernel
theorem dL_law_27 : decode cL_law 27 = .ok (.iload_n 3, 1) := by decide +kernel
theorem dL_law_28 : decode cL_law 28 = .ok (.iaload, 1) := by decide +kernel
theorem dL_law_29 : decode cL_law 29 = .ok (.bipush 31, 2) := by decide +kernel
theorem dL_law_31 : decode cL_law 31 = .ok (.iand, 1) := by decide +kernel
theorem dL_law_32 : decode cL_law 32 = .ok (.tableswitch 855 0 26 #[124, 147, 160, 173, 186, 219, 252, 285, 318, 351, 374, 387, 430, 453, 476, 509, 532, 555, 608, 651, 664, 697, 720, 763, 806, 819, 832], 124) := by decide +kernel
theorem dL_law_156 : decode cL_law 156 = .ok (.aload_n 1, 1) := by decide +kernel
theorem dL_law_157 : decode cL_law 157 = .ok (.aload_n 0, 1) := by decide +kernel
theorem dL_law_158 : decode cL_law 158 = .ok (.iload_n 3, 1) := by decide +kernel
theorem dL_law_159 : decode cL_law 159 = .ok (.iconst 1, 1) := by decide +kernel
theorem dL_law_160 : decode cL_law 160 = .ok (.iadd, 1) := by decide +kernel
theorem dL_law_161 : decode cL_law 161 = .ok (.iaload, 1) := by decide +kernel
theorem dL_law_162 : decode cL_law 162 = .ok (.invokevirtual 13, 3) := by decide +kernel
theorem dL_law_165 : decode cL_law 165 = .ok (.aload_n 2, 1) := by decide +kernel
theorem dL_law_166 : decode cL_law 166 = .ok (.aload_n 0, 1) := by decide +kernel
theorem dL_law_167 : decode cL_law 167 = .ok (.iload_n 3, 1) := by decide +kernel
theorem dL_law_168 : decode cL_law 168 = .ok (.iconst 1, 1) := by decide +kernel
theorem dL_law_169 : decode cL_law 169 = .ok (.iadd, 1) := by decide +kernel
theorem dL_law_170 : decode cL_law 170 = .ok (.iaload, 1) := by decide +kernel
theorem dL_law_171 : decode cL_law 171 = .ok (.invokevirtual 17, 3) := by decide +kernel
theorem dL_law_174 : decode cL_law 174 = .ok (.if_icmp .eq 713, 3) := by decide +kernel
theorem dL_law_177 : decode cL_law 177 = .ok (.iconst 0, 1) := by decide +kernel
theorem dL_law_178 : decode cL_law 178 = .ok (.ireturn, 1) := by decide +kernel
theorem dL_law_179 : decode cL_law 179 = .ok (.aload_n 1, 1) := by decide +kernel
theorem dL_law_180 : decode cL_law 180 = .ok (.invokevirtual 18, 3) := by decide +kernel
theorem dL_law_183 : decode cL_law 183 = .ok (.aload_n 2, 1) := by decide +kernel
theorem dL_law_184 : decode cL_law 184 = .ok (.invokevirtual 22, 3) := by decide +kernel
theorem dL_law_187 : decode cL_law 187 = .ok (.if_icmp .eq 700, 3) := by decide +kernel
theorem dL_law_190 : decode cL_law 190 = .ok (.iconst 0, 1) := by decide +kernel
theorem dL_law_191 : decode cL_law 191 = .ok (.ireturn, 1) := by decide +kernel
theorem dL_law_192 : decode cL_law 192 = .ok (.aload_n 1, 1) := by decide +kernel
theorem dL_law_193 : decode cL_law 193 = .ok (.invokevirtual 23, 3) := by decide +kernel
theorem dL_law_196 : decode cL_law 196 = .ok (.aload_n 2, 1) := by decide +kernel
theorem dL_law_197 : decode cL_law 197 = .ok (.invokevirtual 26, 3) := by decide +kernel
theorem dL_law_200 : decode cL_law 200 = .ok (.if_icmp .eq 687, 3) := by decide +kernel
theorem dL_law_203 : decode cL_law 203 = .ok (.iconst 0, 1) := by decide +kernel
theorem dL_law_204 : decode cL_law 204 = .ok (.ireturn, 1) := by decide +kernel
theorem dL_law_205 : decode cL_law 205 = .ok (.aload_n 1, 1) := by decide +kernel
theorem dL_law_206 : decode cL_law 206 = .ok (.invokevirtual 27, 3) := by decide +kernel
theorem dL_law_209 : decode cL_law 209 = .ok (.aload_n 2, 1) := by decide +kernel
theorem dL_law_210 : decode cL_law 210 = .ok (.invokevirtual 30, 3) := by decide +kernel
theorem dL_law_213 : decode cL_law 213 = .ok (.if_icmp .eq 674, 3) := by decide +kernel
theorem dL_law_216 : decode cL_law 216 = .ok (.iconst 0, 1) := by decide +kernel
theorem dL_law_217 : decode cL_law 217 = .ok (.ireturn, 1) := by decide +kernel
theorem dL_law_218 : decode cL_law 218 = .ok (.aload_n 1, 1) := by decide +kernel
theorem dL_law_219 : decode cL_law 219 = .ok (.aload_n 0, 1) := by decide +kernel
theorem dL_law_220 : decode cL_law 220 = .ok (.iload_n 3, 1) := by decide +kernel
theorem dL_law_221 : decode cL_law 221 = .ok (.iconst 1, 1) := by decide +kernel
theorem dL_law_222 : decode cL_law 222 = .ok (.iadd, 1) := by decide +kernel
theorem dL_law_223 : decode cL_law 223 = .ok (.iaload, 1) := by decide +kernel
theorem dL_law_224 : decode cL_law 224 = .ok (.aload_n 0, 1) := by decide +kernel
theorem dL_law_225 : decode cL_law 225 = .ok (.iload_n 3, 1) := by decide +kernel
theorem dL_law_226 : decode cL_law 226 = .ok (.iconst 2, 1) := by decide +kernel
theorem dL_law_227 : decode cL_law 227 = .ok (.iadd, 1) := by decide +kernel
theorem dL_law_228 : decode cL_law 228 = .ok (.iaload, 1) := by decide +kernel
theorem dL_law_229 : decode cL_law 229 = .ok (.invokevirtual 31, 3) := by decide +kernel
theorem dL_law_232 : decode cL_law 232 = .ok (.aload_n 2, 1) := by decide +kernel
theorem dL_law_233 : decode cL_law 233 = .ok (.aload_n 0, 1) := by decide +kernel
theorem dL_law_234 : decode cL_law 234 = .ok (.iload_n 3, 1) := by decide +kernel
theorem dL_law_235 : decode cL_law 235 = .ok (.iconst 1, 1) := by decide +kernel
theorem dL_law_236 : decode cL_law 236 = .ok (.iadd, 1) := by decide +kernel
theorem dL_law_237 : decode cL_law 237 = .ok (.iaload, 1) := by decide +kernel
theorem dL_law_238 : decode cL_law 238 = .ok (.aload_n 0, 1) := by decide +kernel
theorem dL_law_239 : decode cL_law 239 = .ok (.iload_n 3, 1) := by decide +kernel
theorem dL_law_240 : decode cL_law 240 = .ok (.iconst 2, 1) := by decide +kernel
theorem dL_law_241 : decode cL_law 241 = .ok (.iadd, 1) := by decide +kernel
theorem dL_law_242 : decode cL_law 242 = .ok (.iaload, 1) := by decide +kernel
theorem dL_law_243 : decode cL_law 243 = .ok (.invokevirtual 35, 3) := by decide +kernel
theorem dL_law_246 : decode cL_law 246 = .ok (.if_icmp .eq 641, 3) := by decide +kernel
theorem dL_law_249 : decode cL_law 249 = .ok (.iconst 0, 1) := by decide +kernel
theorem dL_law_250 : decode cL_law 250 = .ok (.ireturn, 1) := by decide +kernel
theorem dL_law_251 : decode cL_law 251 = .ok (.aload_n 1, 1) := by decide +kernel
theorem dL_law_252 : decode cL_law 252 = .ok (.aload_n 0, 1) := by decide +kernel
theorem dL_law_253 : decode cL_law 253 = .ok (.iload_n 3, 1) := by decide +kernel
theorem dL_law_254 : decode cL_law 254 = .ok (.iconst 1, 1) := by decide +kernel
theorem dL_law_255 : decode cL_law 255 = .ok (.iadd, 1) := by decide +kernel
theorem dL_law_256 : decode cL_law 256 = .ok (.iaload, 1) := by decide +kernel
theorem dL_law_257 : decode cL_law 257 = .ok (.aload_n 0, 1) := by decide +kernel
theorem dL_law_258 : decode cL_law 258 = .ok (.iload_n 3, 1) := by decide +kernel
theorem dL_law_259 : decode cL_law 259 = .ok (.iconst 2, 1) := by decide +kernel
theorem dL_law_260 : decode cL_law 260 = .ok (.iadd, 1) := by decide +kernel
theorem dL_law_261 : decode cL_law 261 = .ok (.iaload, 1) := by decide +kernel
theorem dL_law_262 : decode cL_law 262 = .ok (.invokevirtual 36, 3) := by decide +kernel
theorem dL_law_265 : decode cL_law 265 = .ok (.aload_n 2, 1) := by decide +kernel
theorem dL_law_266 : decode cL_law 266 = .ok (.aload_n 0, 1) := by decide +kernel
theorem dL_law_267 : decode cL_law 267 = .ok (.iload_n 3, 1) := by decide +kernel
theorem dL_law_268 : decode cL_law 268 = .ok (.iconst 1, 1) := by decide +kernel
theorem dL_law_269 : decode cL_law 269 = .ok (.iadd, 1) := by decide +kernel
theorem dL_law_270 : decode cL_law 270 = .ok (.iaload, 1) := by decide +kernel
theorem dL_law_271 : decode cL_law 271 = .ok (.aload_n 0, 1) := by decide +kernel
theorem dL_law_272 : decode cL_law 272 = .ok (.iload_n 3, 1) := by decide +kernel
theorem dL_law_273 : decode cL_law 273 = .ok (.iconst 2, 1) := by decide +kernel
theorem dL_law_274 : decode cL_law 274 = .ok (.iadd, 1) := by decide +kernel
theorem dL_law_275 : decode cL_law 275 = .ok (.iaload, 1) := by decide +kernel
theorem dL_law_276 : decode cL_law 276 = .ok (.invokevirtual 39, 3) := by decide +kernel
theorem dL_law_279 : decode cL_law 279 = .ok (.if_icmp .eq 608, 3) := by decide +kernel
theorem dL_law_282 : decode cL_law 282 = .ok (.iconst 0, 1) := by decide +kernel
theorem dL_law_283 : decode cL_law 283 = .ok (.ireturn, 1) := by decide +kernel
theorem dL_law_284 : decode cL_law 284 = .ok (.aload_n 1, 1) := by decide +kernel
theorem dL_law_285 : decode cL_law 285 = .ok (.aload_n 0, 1) := by decide +kernel
theorem dL_law_286 : decode cL_law 286 = .ok (.iload_n 3, 1) := by decide +kernel
theorem dL_law_287 : decode cL_law 287 = .ok (.iconst 1, 1) := by decide +kernel
theorem dL_law_288 : decode cL_law 288 = .ok (.iadd, 1) := by decide +kernel
theorem dL_law_289 : decode cL_law 289 = .ok (.iaload, 1) := by decide +kernel
theorem dL_law_290 : decode cL_law 290 = .ok (.aload_n 0, 1) := by decide +kernel
theorem dL_law_291 : decode cL_law 291 = .ok (.iload_n 3, 1) := by decide +kernel
theorem dL_law_292 : decode cL_law 292 = .ok (.iconst 2, 1) := by decide +kernel
theorem dL_law_293 : decode cL_law 293 = .ok (.iadd, 1) := by decide +kernel
theorem dL_law_294 : decode cL_law 294 = .ok (.iaload, 1) := by decide +kernel
theorem dL_law_295 : decode cL_law 295 = .ok (.invokevirtual 40, 3) := by decide +kernel
theorem dL_law_298 : decode cL_law 298 = .ok (.aload_n 2, 1) := by decide +kernel
theorem dL_law_299 : decode cL_law 299 = .ok (.aload_n 0, 1) := by decide +kernel
theorem dL_law_300 : decode cL_law 300 = .ok (.iload_n 3, 1) := by decide +kernel
theorem dL_law_301 : decode cL_law 301 = .ok (.iconst 1, 1) := by decide +kernel
theorem dL_law_302 : decode cL_law 302 = .ok (.iadd, 1) := by decide +kernel
theorem dL_law_303 : decode cL_law 303 = .ok (.iaload, 1) := by decide +kernel
theorem dL_law_304 : decode cL_law 304 = .ok (.aload_n 0, 1) := by decide +kernel
theorem dL_law_305 : decode cL_law 305 = .ok (.iload_n 3, 1) := by decide +kernel
theorem dL_law_306 : decode cL_law 306 = .ok (.iconst 2, 1) := by decide +kernel
theorem dL_law_307 : decode cL_law 307 = .ok (.iadd, 1) := by decide +kernel
theorem dL_law_308 : decode cL_law 308 = .ok (.iaload, 1) := by decide +kernel
theorem dL_law_309 : decode cL_law 309 = .ok (.invokevirtual 43, 3) := by decide +kernel
theorem dL_law_312 : decode cL_law 312 = .ok (.if_icmp .eq 575, 3) := by decide +kernel
theorem dL_law_315 : decode cL_law 315 = .ok (.iconst 0, 1) := by decide +kernel
theorem dL_law_316 : decode cL_law 316 = .ok (.ireturn, 1) := by decide +kernel
theorem dL_law_317 : decode cL_law 317 = .ok (.aload_n 1, 1) := by decide +kernel
theorem dL_law_318 : decode cL_law 318 = .ok (.aload_n 0, 1) := by decide +kernel
theorem dL_law_319 : decode cL_law 319 = .ok (.iload_n 3, 1) := by decide +kernel
theorem dL_law_320 : decode cL_law 320 = .ok (.iconst 1, 1) := by decide +kernel
theorem dL_law_321 : decode cL_law 321 = .ok (.iadd, 1) := by decide +kernel
theorem dL_law_322 : decode cL_law 322 = .ok (.iaload, 1) := by decide +kernel
theorem dL_law_323 : decode cL_law 323 = .ok (.aload_n 0, 1) := by decide +kernel
theorem dL_law_324 : decode cL_law 324 = .ok (.iload_n 3, 1) := by decide +kernel
theorem dL_law_325 : decode cL_law 325 = .ok (.iconst 2, 1) := by decide +kernel
theorem dL_law_326 : decode cL_law 326 = .ok (.iadd, 1) := by decide +kernel
theorem dL_law_327 : decode cL_law 327 = .ok (.iaload, 1) := by decide +kernel
theorem dL_law_328 : decode cL_law 328 = .ok (.invokevirtual 44, 3) := by decide +kernel
theorem dL_law_331 : decode cL_law 331 = .ok (.aload_n 2, 1) := by decide +kernel
theorem dL_law_332 : decode cL_law 332 = .ok (.aload_n 0, 1) := by decide +kernel
theorem dL_law_333 : decode cL_law 333 = .ok (.iload_n 3, 1) := by decide +kernel
theorem dL_law_334 : decode cL_law 334 = .ok (.iconst 1, 1) := by decide +kernel
theorem dL_law_335 : decode cL_law 335 = .ok (.iadd, 1) := by decide +kernel
theorem dL_law_336 : decode cL_law 336 = .ok (.iaload, 1) := by decide +kernel
theorem dL_law_337 : decode cL_law 337 = .ok (.aload_n 0, 1) := by decide +kernel
theorem dL_law_338 : decode cL_law 338 = .ok (.iload_n 3, 1) := by decide +kernel
theorem dL_law_339 : decode cL_law 339 = .ok (.iconst 2, 1) := by decide +kernel
theorem dL_law_340 : decode cL_law 340 = .ok (.iadd, 1) := by decide +kernel
theorem dL_law_341 : decode cL_law 341 = .ok (.iaload, 1) := by decide +kernel
theorem dL_law_342 : decode cL_law 342 = .ok (.invokevirtual 47, 3) := by decide +kernel
theorem dL_law_345 : decode cL_law 345 = .ok (.if_icmp .eq 542, 3) := by decide +kernel
theorem dL_law_348 : decode cL_law 348 = .ok (.iconst 0, 1) := by decide +kernel
theorem dL_law_349 : decode cL_law 349 = .ok (.ireturn, 1) := by decide +kernel
theorem dL_law_350 : decode cL_law 350 = .ok (.aload_n 1, 1) := by decide +kernel
theorem dL_law_351 : decode cL_law 351 = .ok (.aload_n 0, 1) := by decide +kernel
theorem dL_law_352 : decode cL_law 352 = .ok (.iload_n 3, 1) := by decide +kernel
theorem dL_law_353 : decode cL_law 353 = .ok (.iconst 1, 1) := by decide +kernel
theorem dL_law_354 : decode cL_law 354 = .ok (.iadd, 1) := by decide +kernel
theorem dL_law_355 : decode cL_law 355 = .ok (.iaload, 1) := by decide +kernel
theorem dL_law_356 : decode cL_law 356 = .ok (.aload_n 0, 1) := by decide +kernel
theorem dL_law_357 : decode cL_law 357 = .ok (.iload_n 3, 1) := by decide +kernel
theorem dL_law_358 : decode cL_law 358 = .ok (.iconst 2, 1) := by decide +kernel
theorem dL_law_359 : decode cL_law 359 = .ok (.iadd, 1) := by decide +kernel
theorem dL_law_360 : decode cL_law 360 = .ok (.iaload, 1) := by decide +kernel
theorem dL_law_361 : decode cL_law 361 = .ok (.invokevirtual 48, 3) := by decide +kernel
theorem dL_law_364 : decode cL_law 364 = .ok (.aload_n 2, 1) := by decide +kernel
theorem dL_law_365 : decode cL_law 365 = .ok (.aload_n 0, 1) := by decide +kernel
theorem dL_law_366 : decode cL_law 366 = .ok (.iload_n 3, 1) := by decide +kernel
theorem dL_law_367 : decode cL_law 367 = .ok (.iconst 1, 1) := by decide +kernel
theorem dL_law_368 : decode cL_law 368 = .ok (.iadd, 1) := by decide +kernel
theorem dL_law_369 : decode cL_law 369 = .ok (.iaload, 1) := by decide +kernel
theorem dL_law_370 : decode cL_law 370 = .ok (.aload_n 0, 1) := by decide +kernel
theorem dL_law_371 : decode cL_law 371 = .ok (.iload_n 3, 1) := by decide +kernel
theorem dL_law_372 : decode cL_law 372 = .ok (.iconst 2, 1) := by decide +kernel
theorem dL_law_373 : decode cL_law 373 = .ok (.iadd, 1) := by decide +kernel
theorem dL_law_374 : decode cL_law 374 = .ok (.iaload, 1) := by decide +kernel
theorem dL_law_375 : decode cL_law 375 = .ok (.invokevirtual 51, 3) := by decide +kernel
theorem dL_law_378 : decode cL_law 378 = .ok (.if_icmp .eq 509, 3) := by decide +kernel
theorem dL_law_381 : decode cL_law 381 = .ok (.iconst 0, 1) := by decide +kernel
theorem dL_law_382 : decode cL_law 382 = .ok (.ireturn, 1) := by decide +kernel
theorem dL_law_383 : decode cL_law 383 = .ok (.aload_n 1, 1) := by decide +kernel
theorem dL_law_384 : decode cL_law 384 = .ok (.aload_n 0, 1) := by decide +kernel
theorem dL_law_385 : decode cL_law 385 = .ok (.iload_n 3, 1) := by decide +kernel
theorem dL_law_386 : decode cL_law 386 = .ok (.iconst 1, 1) := by decide +kernel
theorem dL_law_387 : decode cL_law 387 = .ok (.iadd, 1) := by decide +kernel
theorem dL_law_388 : decode cL_law 388 = .ok (.iaload, 1) := by decide +kernel
theorem dL_law_389 : decode cL_law 389 = .ok (.invokevirtual 52, 3) := by decide +kernel
theorem dL_law_392 : decode cL_law 392 = .ok (.aload_n 2, 1) := by decide +kernel
theorem dL_law_393 : decode cL_law 393 = .ok (.aload_n 0, 1) := by decide +kernel
theorem dL_law_394 : decode cL_law 394 = .ok (.iload_n 3, 1) := by decide +kernel
theorem dL_law_395 : decode cL_law 395 = .ok (.iconst 1, 1) := by decide +kernel
theorem dL_law_396 : decode cL_law 396 = .ok (.iadd, 1) := by decide +kernel
theorem dL_law_397 : decode cL_law 397 = .ok (.iaload, 1) := by decide +kernel
theorem dL_law_398 : decode cL_law 398 = .ok (.invokevirtual 55, 3) := by decide +kernel
theorem dL_law_401 : decode cL_law 401 = .ok (.if_icmp .eq 486, 3) := by decide +kernel
theorem dL_law_404 : decode cL_law 404 = .ok (.iconst 0, 1) := by decide +kernel
theorem dL_law_405 : decode cL_law 405 = .ok (.ireturn, 1) := by decide +kernel
theorem dL_law_406 : decode cL_law 406 = .ok (.aload_n 1, 1) := by decide +kernel
theorem dL_law_407 : decode cL_law 407 = .ok (.invokevirtual 56, 3) := by decide +kernel
theorem dL_law_410 : decode cL_law 410 = .ok (.aload_n 2, 1) := by decide +kernel
theorem dL_law_411 : decode cL_law 411 = .ok (.invokevirtual 59, 3) := by decide +kernel
theorem dL_law_414 : decode cL_law 414 = .ok (.if_icmp .eq 473, 3) := by decide +kernel
theorem dL_law_417 : decode cL_law 417 = .ok (.iconst 0, 1) := by decide +kernel
theorem dL_law_418 : decode cL_law 418 = .ok (.ireturn, 1) := by decide +kernel
theorem dL_law_419 : decode cL_law 419 = .ok (.aload_n 1, 1) := by decide +kernel
theorem dL_law_420 : decode cL_law 420 = .ok (.aload_n 0, 1) := by decide +kernel
theorem dL_law_421 : decode cL_law 421 = .ok (.iload_n 3, 1) := by decide +kernel
theorem dL_law_422 : decode cL_law 422 = .ok (.iconst 1, 1) := by decide +kernel
theorem dL_law_423 : decode cL_law 423 = .ok (.iadd, 1) := by decide +kernel
theorem dL_law_424 : decode cL_law 424 = .ok (.iaload, 1) := by decide +kernel
theorem dL_law_425 : decode cL_law 425 = .ok (.aload_n 0, 1) := by decide +kernel
theorem dL_law_426 : decode cL_law 426 = .ok (.iload_n 3, 1) := by decide +kernel
theorem dL_law_427 : decode cL_law 427 = .ok (.iconst 2, 1) := by decide +kernel
theorem dL_law_428 : decode cL_law 428 = .ok (.iadd, 1) := by decide +kernel
theorem dL_law_429 : decode cL_law 429 = .ok (.iaload, 1) := by decide +kernel
theorem dL_law_430 : decode cL_law 430 = .ok (.aload_n 0, 1) := by decide +kernel
theorem dL_law_431 : decode cL_law 431 = .ok (.iload_n 3, 1) := by decide +kernel
theorem dL_law_432 : decode cL_law 432 = .ok (.iconst 3, 1) := by decide +kernel
theorem dL_law_433 : decode cL_law 433 = .ok (.iadd, 1) := by decide +kernel
theorem dL_law_434 : decode cL_law 434 = .ok (.iaload, 1) := by decide +kernel
theorem dL_law_435 : decode cL_law 435 = .ok (.invokevirtual 60, 3) := by decide +kernel
theorem dL_law_438 : decode cL_law 438 = .ok (.aload_n 2, 1) := by decide +kernel
theorem dL_law_439 : decode cL_law 439 = .ok (.aload_n 0, 1) := by decide +kernel
theorem dL_law_440 : decode cL_law 440 = .ok (.iload_n 3, 1) := by decide +kernel
theorem dL_law_441 : decode cL_law 441 = .ok (.iconst 1, 1) := by decide +kernel
theorem dL_law_442 : decode cL_law 442 = .ok (.iadd, 1) := by decide +kernel
theorem dL_law_443 : decode cL_law 443 = .ok (.iaload, 1) := by decide +kernel
theorem dL_law_444 : decode cL_law 444 = .ok (.aload_n 0, 1) := by decide +kernel
theorem dL_law_445 : decode cL_law 445 = .ok (.iload_n 3, 1) := by decide +kernel
theorem dL_law_446 : decode cL_law 446 = .ok (.iconst 2, 1) := by decide +kernel
theorem dL_law_447 : decode cL_law 447 = .ok (.iadd, 1) := by decide +kernel
theorem dL_law_448 : decode cL_law 448 = .ok (.iaload, 1) := by decide +kernel
theorem dL_law_449 : decode cL_law 449 = .ok (.aload_n 0, 1) := by decide +kernel
theorem dL_law_450 : decode cL_law 450 = .ok (.iload_n 3, 1) := by decide +kernel
theorem dL_law_451 : decode cL_law 451 = .ok (.iconst 3, 1) := by decide +kernel
theorem dL_law_452 : decode cL_law 452 = .ok (.iadd, 1) := by decide +kernel
theorem dL_law_453 : decode cL_law 453 = .ok (.iaload, 1) := by decide +kernel
theorem dL_law_454 : decode cL_law 454 = .ok (.invokevirtual 64, 3) := by decide +kernel
theorem dL_law_457 : decode cL_law 457 = .ok (.if_icmp .eq 430, 3) := by decide +kernel
theorem dL_law_460 : decode cL_law 460 = .ok (.iconst 0, 1) := by decide +kernel
theorem dL_law_461 : decode cL_law 461 = .ok (.ireturn, 1) := by decide +kernel
theorem dL_law_462 : decode cL_law 462 = .ok (.aload_n 1, 1) := by decide +kernel
theorem dL_law_463 : decode cL_law 463 = .ok (.aload_n 0, 1) := by decide +kernel
theorem dL_law_464 : decode cL_law 464 = .ok (.iload_n 3, 1) := by decide +kernel
theorem dL_law_465 : decode cL_law 465 = .ok (.iconst 1, 1) := by decide +kernel
theorem dL_law_466 : decode cL_law 466 = .ok (.iadd, 1) := by decide +kernel
theorem dL_law_467 : decode cL_law 467 = .ok (.iaload, 1) := by decide +kernel
theorem dL_law_468 : decode cL_law 468 = .ok (.invokevirtual 65, 3) := by decide +kernel
theorem dL_law_471 : decode cL_law 471 = .ok (.aload_n 2, 1) := by decide +kernel
theorem dL_law_472 : decode cL_law 472 = .ok (.aload_n 0, 1) := by decide +kernel
theorem dL_law_473 : decode cL_law 473 = .ok (.iload_n 3, 1) := by decide +kernel
theorem dL_law_474 : decode cL_law 474 = .ok (.iconst 1, 1) := by decide +kernel
theorem dL_law_475 : decode cL_law 475 = .ok (.iadd, 1) := by decide +kernel
theorem dL_law_476 : decode cL_law 476 = .ok (.iaload, 1) := by decide +kernel
theorem dL_law_477 : decode cL_law 477 = .ok (.invokevirtual 68, 3) := by decide +kernel
theorem dL_law_480 : decode cL_law 480 = .ok (.if_icmp .eq 407, 3) := by decide +kernel
theorem dL_law_483 : decode cL_law 483 = .ok (.iconst 0, 1) := by decide +kernel
theorem dL_law_484 : decode cL_law 484 = .ok (.ireturn, 1) := by decide +kernel
theorem dL_law_485 : decode cL_law 485 = .ok (.aload_n 1, 1) := by decide +kernel
theorem dL_law_486 : decode cL_law 486 = .ok (.aload_n 0, 1) := by decide +kernel
theorem dL_law_487 : decode cL_law 487 = .ok (.iload_n 3, 1) := by decide +kernel
theorem dL_law_488 : decode cL_law 488 = .ok (.iconst 1, 1) := by decide +kernel
theorem dL_law_489 : decode cL_law 489 = .ok (.iadd, 1) := by decide +kernel
theorem dL_law_490 : decode cL_law 490 = .ok (.iaload, 1) := by decide +kernel
theorem dL_law_491 : decode cL_law 491 = .ok (.invokevirtual 69, 3) := by decide +kernel
theorem dL_law_494 : decode cL_law 494 = .ok (.aload_n 2, 1) := by decide +kernel
theorem dL_law_495 : decode cL_law 495 = .ok (.aload_n 0, 1) := by decide +kernel
theorem dL_law_496 : decode cL_law 496 = .ok (.iload_n 3, 1) := by decide +kernel
theorem dL_law_497 : decode cL_law 497 = .ok (.iconst 1, 1) := by decide +kernel
theorem dL_law_498 : decode cL_law 498 = .ok (.iadd, 1) := by decide +kernel
theorem dL_law_499 : decode cL_law 499 = .ok (.iaload, 1) := by decide +kernel
theorem dL_law_500 : decode cL_law 500 = .ok (.invokevirtual 72, 3) := by decide +kernel
theorem dL_law_503 : decode cL_law 503 = .ok (.if_icmp .eq 384, 3) := by decide +kernel
theorem dL_law_506 : decode cL_law 506 = .ok (.iconst 0, 1) := by decide +kernel
theorem dL_law_507 : decode cL_law 507 = .ok (.ireturn, 1) := by decide +kernel
theorem dL_law_508 : decode cL_law 508 = .ok (.aload_n 1, 1) := by decide +kernel
theorem dL_law_509 : decode cL_law 509 = .ok (.aload_n 0, 1) := by decide +kernel
theorem dL_law_510 : decode cL_law 510 = .ok (.iload_n 3, 1) := by decide +kernel
theorem dL_law_511 : decode cL_law 511 = .ok (.iconst 1, 1) := by decide +kernel
theorem dL_law_512 : decode cL_law 512 = .ok (.iadd, 1) := by decide +kernel
theorem dL_law_513 : decode cL_law 513 = .ok (.iaload, 1) := by decide +kernel
theorem dL_law_514 : decode cL_law 514 = .ok (.aload_n 0, 1) := by decide +kernel
theorem dL_law_515 : decode cL_law 515 = .ok (.iload_n 3, 1) := by decide +kernel
theorem dL_law_516 : decode cL_law 516 = .ok (.iconst 2, 1) := by decide +kernel
theorem dL_law_517 : decode cL_law 517 = .ok (.iadd, 1) := by decide +kernel
theorem dL_law_518 : decode cL_law 518 = .ok (.iaload, 1) := by decide +kernel
theorem dL_law_519 : decode cL_law 519 = .ok (.invokevirtual 73, 3) := by decide +kernel
theorem dL_law_522 : decode cL_law 522 = .ok (.aload_n 2, 1) := by decide +kernel
theorem dL_law_523 : decode cL_law 523 = .ok (.aload_n 0, 1) := by decide +kernel
theorem dL_law_524 : decode cL_law 524 = .ok (.iload_n 3, 1) := by decide +kernel
theorem dL_law_525 : decode cL_law 525 = .ok (.iconst 1, 1) := by decide +kernel
theorem dL_law_526 : decode cL_law 526 = .ok (.iadd, 1) := by decide +kernel
theorem dL_law_527 : decode cL_law 527 = .ok (.iaload, 1) := by decide +kernel
theorem dL_law_528 : decode cL_law 528 = .ok (.aload_n 0, 1) := by decide +kernel
theorem dL_law_529 : decode cL_law 529 = .ok (.iload_n 3, 1) := by decide +kernel
theorem dL_law_530 : decode cL_law 530 = .ok (.iconst 2, 1) := by decide +kernel
theorem dL_law_531 : decode cL_law 531 = .ok (.iadd, 1) := by decide +kernel
theorem dL_law_532 : decode cL_law 532 = .ok (.iaload, 1) := by decide +kernel
theorem dL_law_533 : decode cL_law 533 = .ok (.invokevirtual 76, 3) := by decide +kernel
theorem dL_law_536 : decode cL_law 536 = .ok (.if_icmp .eq 351, 3) := by decide +kernel
theorem dL_law_539 : decode cL_law 539 = .ok (.iconst 0, 1) := by decide +kernel
theorem dL_law_540 : decode cL_law 540 = .ok (.ireturn, 1) := by decide +kernel
theorem dL_law_541 : decode cL_law 541 = .ok (.aload_n 1, 1) := by decide +kernel
theorem dL_law_542 : decode cL_law 542 = .ok (.aload_n 0, 1) := by decide +kernel
theorem dL_law_543 : decode cL_law 543 = .ok (.iload_n 3, 1) := by decide +kernel
theorem dL_law_544 : decode cL_law 544 = .ok (.iconst 1, 1) := by decide +kernel
theorem dL_law_545 : decode cL_law 545 = .ok (.iadd, 1) := by decide +kernel
theorem dL_law_546 : decode cL_law 546 = .ok (.iaload, 1) := by decide +kernel
theorem dL_law_547 : decode cL_law 547 = .ok (.invokevirtual 77, 3) := by decide +kernel
theorem dL_law_550 : decode cL_law 550 = .ok (.aload_n 2, 1) := by decide +kernel
theorem dL_law_551 : decode cL_law 551 = .ok (.aload_n 0, 1) := by decide +kernel
theorem dL_law_552 : decode cL_law 552 = .ok (.iload_n 3, 1) := by decide +kernel
theorem dL_law_553 : decode cL_law 553 = .ok (.iconst 1, 1) := by decide +kernel
theorem dL_law_554 : decode cL_law 554 = .ok (.iadd, 1) := by decide +kernel
theorem dL_law_555 : decode cL_law 555 = .ok (.iaload, 1) := by decide +kernel
theorem dL_law_556 : decode cL_law 556 = .ok (.invokevirtual 80, 3) := by decide +kernel
theorem dL_law_559 : decode cL_law 559 = .ok (.if_icmp .eq 328, 3) := by decide +kernel
theorem dL_law_562 : decode cL_law 562 = .ok (.iconst 0, 1) := by decide +kernel
theorem dL_law_563 : decode cL_law 563 = .ok (.ireturn, 1) := by decide +kernel
theorem dL_law_564 : decode cL_law 564 = .ok (.aload_n 1, 1) := by decide +kernel
theorem dL_law_565 : decode cL_law 565 = .ok (.aload_n 0, 1) := by decide +kernel
theorem dL_law_566 : decode cL_law 566 = .ok (.iload_n 3, 1) := by decide +kernel
theorem dL_law_567 : decode cL_law 567 = .ok (.iconst 1, 1) := by decide +kernel
theorem dL_law_568 : decode cL_law 568 = .ok (.iadd, 1) := by decide +kernel
theorem dL_law_569 : decode cL_law 569 = .ok (.iaload, 1) := by decide +kernel
theorem dL_law_570 : decode cL_law 570 = .ok (.invokevirtual 81, 3) := by decide +kernel
theorem dL_law_573 : decode cL_law 573 = .ok (.aload_n 2, 1) := by decide +kernel
theorem dL_law_574 : decode cL_law 574 = .ok (.aload_n 0, 1) := by decide +kernel
theorem dL_law_575 : decode cL_law 575 = .ok (.iload_n 3, 1) := by decide +kernel
theorem dL_law_576 : decode cL_law 576 = .ok (.iconst 1, 1) := by decide +kernel
theorem dL_law_577 : decode cL_law 577 = .ok (.iadd, 1) := by decide +kernel
theorem dL_law_578 : decode cL_law 578 = .ok (.iaload, 1) := by decide +kernel
theorem dL_law_579 : decode cL_law 579 = .ok (.invokevirtual 84, 3) := by decide +kernel
theorem dL_law_582 : decode cL_law 582 = .ok (.if_icmp .eq 305, 3) := by decide +kernel
theorem dL_law_585 : decode cL_law 585 = .ok (.iconst 0, 1) := by decide +kernel
theorem dL_law_586 : decode cL_law 586 = .ok (.ireturn, 1) := by decide +kernel
theorem dL_law_587 : decode cL_law 587 = .ok (.aload_n 1, 1) := by decide +kernel
theorem dL_law_588 : decode cL_law 588 = .ok (.aload_n 0, 1) := by decide +kernel
theorem dL_law_589 : decode cL_law 589 = .ok (.iload_n 3, 1) := by decide +kernel
theorem dL_law_590 : decode cL_law 590 = .ok (.iconst 1, 1) := by decide +kernel
theorem dL_law_591 : decode cL_law 591 = .ok (.iadd, 1) := by decide +kernel
theorem dL_law_592 : decode cL_law 592 = .ok (.iaload, 1) := by decide +kernel
theorem dL_law_593 : decode cL_law 593 = .ok (.aload_n 0, 1) := by decide +kernel
theorem dL_law_594 : decode cL_law 594 = .ok (.iload_n 3, 1) := by decide +kernel
theorem dL_law_595 : decode cL_law 595 = .ok (.iconst 2, 1) := by decide +kernel
theorem dL_law_596 : decode cL_law 596 = .ok (.iadd, 1) := by decide +kernel
theorem dL_law_597 : decode cL_law 597 = .ok (.iaload, 1) := by decide +kernel
theorem dL_law_598 : decode cL_law 598 = .ok (.aload_n 0, 1) := by decide +kernel
theorem dL_law_599 : decode cL_law 599 = .ok (.iload_n 3, 1) := by decide +kernel
theorem dL_law_600 : decode cL_law 600 = .ok (.iconst 3, 1) := by decide +kernel
theorem dL_law_601 : decode cL_law 601 = .ok (.iadd, 1) := by decide +kernel
theorem dL_law_602 : decode cL_law 602 = .ok (.iaload, 1) := by decide +kernel
theorem dL_law_603 : decode cL_law 603 = .ok (.aload_n 0, 1) := by decide +kernel
theorem dL_law_604 : decode cL_law 604 = .ok (.iload_n 3, 1) := by decide +kernel
theorem dL_law_605 : decode cL_law 605 = .ok (.iconst 4, 1) := by decide +kernel
theorem dL_law_606 : decode cL_law 606 = .ok (.iadd, 1) := by decide +kernel
theorem dL_law_607 : decode cL_law 607 = .ok (.iaload, 1) := by decide +kernel
theorem dL_law_608 : decode cL_law 608 = .ok (.invokevirtual 85, 3) := by decide +kernel
theorem dL_law_611 : decode cL_law 611 = .ok (.aload_n 2, 1) := by decide +kernel
theorem dL_law_612 : decode cL_law 612 = .ok (.aload_n 0, 1) := by decide +kernel
theorem dL_law_613 : decode cL_law 613 = .ok (.iload_n 3, 1) := by decide +kernel
theorem dL_law_614 : decode cL_law 614 = .ok (.iconst 1, 1) := by decide +kernel
theorem dL_law_615 : decode cL_law 615 = .ok (.iadd, 1) := by decide +kernel
theorem dL_law_616 : decode cL_law 616 = .ok (.iaload, 1) := by decide +kernel
theorem dL_law_617 : decode cL_law 617 = .ok (.aload_n 0, 1) := by decide +kernel
theorem dL_law_618 : decode cL_law 618 = .ok (.iload_n 3, 1) := by decide +kernel
theorem dL_law_619 : decode cL_law 619 = .ok (.iconst 2, 1) := by decide +kernel
theorem dL_law_620 : decode cL_law 620 = .ok (.iadd, 1) := by decide +kernel
theorem dL_law_621 : decode cL_law 621 = .ok (.iaload, 1) := by decide +kernel
theorem dL_law_622 : decode cL_law 622 = .ok (.aload_n 0, 1) := by decide +kernel
theorem dL_law_623 : decode cL_law 623 = .ok (.iload_n 3, 1) := by decide +kernel
theorem dL_law_624 : decode cL_law 624 = .ok (.iconst 3, 1) := by decide +kernel
theorem dL_law_625 : decode cL_law 625 = .ok (.iadd, 1) := by decide +kernel
theorem dL_law_626 : decode cL_law 626 = .ok (.iaload, 1) := by decide +kernel
theorem dL_law_627 : decode cL_law 627 = .ok (.aload_n 0, 1) := by decide +kernel
theorem dL_law_628 : decode cL_law 628 = .ok (.iload_n 3, 1) := by decide +kernel
theorem dL_law_629 : decode cL_law 629 = .ok (.iconst 4, 1) := by decide +kernel
theorem dL_law_630 : decode cL_law 630 = .ok (.iadd, 1) := by decide +kernel
theorem dL_law_631 : decode cL_law 631 = .ok (.iaload, 1) := by decide +kernel
theorem dL_law_632 : decode cL_law 632 = .ok (.invokevirtual 89, 3) := by decide +kernel
theorem dL_law_635 : decode cL_law 635 = .ok (.if_icmp .eq 252, 3) := by decide +kernel
theorem dL_law_638 : decode cL_law 638 = .ok (.iconst 0, 1) := by decide +kernel
theorem dL_law_639 : decode cL_law 639 = .ok (.ireturn, 1) := by decide +kernel
theorem dL_law_640 : decode cL_law 640 = .ok (.aload_n 1, 1) := by decide +kernel
theorem dL_law_641 : decode cL_law 641 = .ok (.aload_n 0, 1) := by decide +kernel
theorem dL_law_642 : decode cL_law 642 = .ok (.iload_n 3, 1) := by decide +kernel
theorem dL_law_643 : decode cL_law 643 = .ok (.iconst 1, 1) := by decide +kernel
theorem dL_law_644 : decode cL_law 644 = .ok (.iadd, 1) := by decide +kernel
theorem dL_law_645 : decode cL_law 645 = .ok (.iaload, 1) := by decide +kernel
theorem dL_law_646 : decode cL_law 646 = .ok (.aload_n 0, 1) := by decide +kernel
theorem dL_law_647 : decode cL_law 647 = .ok (.iload_n 3, 1) := by decide +kernel
theorem dL_law_648 : decode cL_law 648 = .ok (.iconst 2, 1) := by decide +kernel
theorem dL_law_649 : decode cL_law 649 = .ok (.iadd, 1) := by decide +kernel
theorem dL_law_650 : decode cL_law 650 = .ok (.iaload, 1) := by decide +kernel
theorem dL_law_651 : decode cL_law 651 = .ok (.aload_n 0, 1) := by decide +kernel
theorem dL_law_652 : decode cL_law 652 = .ok (.iload_n 3, 1) := by decide +kernel
theorem dL_law_653 : decode cL_law 653 = .ok (.iconst 3, 1) := by decide +kernel
theorem dL_law_654 : decode cL_law 654 = .ok (.iadd, 1) := by decide +kernel
theorem dL_law_655 : decode cL_law 655 = .ok (.iaload, 1) := by decide +kernel
theorem dL_law_656 : decode cL_law 656 = .ok (.invokevirtual 90, 3) := by decide +kernel
theorem dL_law_659 : decode cL_law 659 = .ok (.aload_n 2, 1) := by decide +kernel
theorem dL_law_660 : decode cL_law 660 = .ok (.aload_n 0, 1) := by decide +kernel
theorem dL_law_661 : decode cL_law 661 = .ok (.iload_n 3, 1) := by decide +kernel
theorem dL_law_662 : decode cL_law 662 = .ok (.iconst 1, 1) := by decide +kernel
theorem dL_law_663 : decode cL_law 663 = .ok (.iadd, 1) := by decide +kernel
theorem dL_law_664 : decode cL_law 664 = .ok (.iaload, 1) := by decide +kernel
theorem dL_law_665 : decode cL_law 665 = .ok (.aload_n 0, 1) := by decide +kernel
theorem dL_law_666 : decode cL_law 666 = .ok (.iload_n 3, 1) := by decide +kernel
theorem dL_law_667 : decode cL_law 667 = .ok (.iconst 2, 1) := by decide +kernel
theorem dL_law_668 : decode cL_law 668 = .ok (.iadd, 1) := by decide +kernel
theorem dL_law_669 : decode cL_law 669 = .ok (.iaload, 1) := by decide +kernel
theorem dL_law_670 : decode cL_law 670 = .ok (.aload_n 0, 1) := by decide +kernel
theorem dL_law_671 : decode cL_law 671 = .ok (.iload_n 3, 1) := by decide +kernel
theorem dL_law_672 : decode cL_law 672 = .ok (.iconst 3, 1) := by decide +kernel
theorem dL_law_673 : decode cL_law 673 = .ok (.iadd, 1) := by decide +kernel
theorem dL_law_674 : decode cL_law 674 = .ok (.iaload, 1) := by decide +kernel
theorem dL_law_675 : decode cL_law 675 = .ok (.invokevirtual 93, 3) := by decide +kernel
theorem dL_law_678 : decode cL_law 678 = .ok (.if_icmp .eq 209, 3) := by decide +kernel
theorem dL_law_681 : decode cL_law 681 = .ok (.iconst 0, 1) := by decide +kernel
theorem dL_law_682 : decode cL_law 682 = .ok (.ireturn, 1) := by decide +kernel
theorem dL_law_683 : decode cL_law 683 = .ok (.aload_n 1, 1) := by decide +kernel
theorem dL_law_684 : decode cL_law 684 = .ok (.invokevirtual 94, 3) := by decide +kernel
theorem dL_law_687 : decode cL_law 687 = .ok (.aload_n 2, 1) := by decide +kernel
theorem dL_law_688 : decode cL_law 688 = .ok (.invokevirtual 97, 3) := by decide +kernel
theorem dL_law_691 : decode cL_law 691 = .ok (.if_icmp .eq 196, 3) := by decide +kernel
theorem dL_law_694 : decode cL_law 694 = .ok (.iconst 0, 1) := by decide +kernel
theorem dL_law_695 : decode cL_law 695 = .ok (.ireturn, 1) := by decide +kernel
theorem dL_law_696 : decode cL_law 696 = .ok (.aload_n 1, 1) := by decide +kernel
theorem dL_law_697 : decode cL_law 697 = .ok (.aload_n 0, 1) := by decide +kernel
theorem dL_law_698 : decode cL_law 698 = .ok (.iload_n 3, 1) := by decide +kernel
theorem dL_law_699 : decode cL_law 699 = .ok (.iconst 1, 1) := by decide +kernel
theorem dL_law_700 : decode cL_law 700 = .ok (.iadd, 1) := by decide +kernel
theorem dL_law_701 : decode cL_law 701 = .ok (.iaload, 1) := by decide +kernel
theorem dL_law_702 : decode cL_law 702 = .ok (.aload_n 0, 1) := by decide +kernel
theorem dL_law_703 : decode cL_law 703 = .ok (.iload_n 3, 1) := by decide +kernel
theorem dL_law_704 : decode cL_law 704 = .ok (.iconst 2, 1) := by decide +kernel
theorem dL_law_705 : decode cL_law 705 = .ok (.iadd, 1) := by decide +kernel
theorem dL_law_706 : decode cL_law 706 = .ok (.iaload, 1) := by decide +kernel
theorem dL_law_707 : decode cL_law 707 = .ok (.invokevirtual 98, 3) := by decide +kernel
theorem dL_law_710 : decode cL_law 710 = .ok (.aload_n 2, 1) := by decide +kernel
theorem dL_law_711 : decode cL_law 711 = .ok (.aload_n 0, 1) := by decide +kernel
theorem dL_law_712 : decode cL_law 712 = .ok (.iload_n 3, 1) := by decide +kernel
theorem dL_law_713 : decode cL_law 713 = .ok (.iconst 1, 1) := by decide +kernel
theorem dL_law_714 : decode cL_law 714 = .ok (.iadd, 1) := by decide +kernel
theorem dL_law_715 : decode cL_law 715 = .ok (.iaload, 1) := by decide +kernel
theorem dL_law_716 : decode cL_law 716 = .ok (.aload_n 0, 1) := by decide +kernel
theorem dL_law_717 : decode cL_law 717 = .ok (.iload_n 3, 1) := by decide +kernel
theorem dL_law_718 : decode cL_law 718 = .ok (.iconst 2, 1) := by decide +kernel
theorem dL_law_719 : decode cL_law 719 = .ok (.iadd, 1) := by decide +kernel
theorem dL_law_720 : decode cL_law 720 = .ok (.iaload, 1) := by decide +kernel
theorem dL_law_721 : decode cL_law 721 = .ok (.invokevirtual 101, 3) := by decide +kernel
theorem dL_law_724 : decode cL_law 724 = .ok (.if_icmp .eq 163, 3) := by decide +kernel
theorem dL_law_727 : decode cL_law 727 = .ok (.iconst 0, 1) := by decide +kernel
theorem dL_law_728 : decode cL_law 728 = .ok (.ireturn, 1) := by decide +kernel
theorem dL_law_729 : decode cL_law 729 = .ok (.aload_n 1, 1) := by decide +kernel
theorem dL_law_730 : decode cL_law 730 = .ok (.aload_n 0, 1) := by decide +kernel
theorem dL_law_731 : decode cL_law 731 = .ok (.iload_n 3, 1) := by decide +kernel
theorem dL_law_732 : decode cL_law 732 = .ok (.iconst 1, 1) := by decide +kernel
theorem dL_law_733 : decode cL_law 733 = .ok (.iadd, 1) := by decide +kernel
theorem dL_law_734 : decode cL_law 734 = .ok (.iaload, 1) := by decide +kernel
theorem dL_law_735 : decode cL_law 735 = .ok (.invokevirtual 102, 3) := by decide +kernel
theorem dL_law_738 : decode cL_law 738 = .ok (.aload_n 2, 1) := by decide +kernel
theorem dL_law_739 : decode cL_law 739 = .ok (.aload_n 0, 1) := by decide +kernel
theorem dL_law_740 : decode cL_law 740 = .ok (.iload_n 3, 1) := by decide +kernel
theorem dL_law_741 : decode cL_law 741 = .ok (.iconst 1, 1) := by decide +kernel
theorem dL_law_742 : decode cL_law 742 = .ok (.iadd, 1) := by decide +kernel
theorem dL_law_743 : decode cL_law 743 = .ok (.iaload, 1) := by decide +kernel
theorem dL_law_744 : decode cL_law 744 = .ok (.invokevirtual 105, 3) := by decide +kernel
theorem dL_law_747 : decode cL_law 747 = .ok (.if_icmp .eq 140, 3) := by decide +kernel
theorem dL_law_750 : decode cL_law 750 = .ok (.iconst 0, 1) := by decide +kernel
theorem dL_law_751 : decode cL_law 751 = .ok (.ireturn, 1) := by decide +kernel
theorem dL_law_752 : decode cL_law 752 = .ok (.aload_n 1, 1) := by decide +kernel
theorem dL_law_753 : decode cL_law 753 = .ok (.aload_n 0, 1) := by decide +kernel
theorem dL_law_754 : decode cL_law 754 = .ok (.iload_n 3, 1) := by decide +kernel
theorem dL_law_755 : decode cL_law 755 = .ok (.iconst 1, 1) := by decide +kernel
theorem dL_law_756 : decode cL_law 756 = .ok (.iadd, 1) := by decide +kernel
theorem dL_law_757 : decode cL_law 757 = .ok (.iaload, 1) := by decide +kernel
theorem dL_law_758 : decode cL_law 758 = .ok (.aload_n 0, 1) := by decide +kernel
theorem dL_law_759 : decode cL_law 759 = .ok (.iload_n 3, 1) := by decide +kernel
theorem dL_law_760 : decode cL_law 760 = .ok (.iconst 2, 1) := by decide +kernel
theorem dL_law_761 : decode cL_law 761 = .ok (.iadd, 1) := by decide +kernel
theorem dL_law_762 : decode cL_law 762 = .ok (.iaload, 1) := by decide +kernel
theorem dL_law_763 : decode cL_law 763 = .ok (.aload_n 0, 1) := by decide +kernel
theorem dL_law_764 : decode cL_law 764 = .ok (.iload_n 3, 1) := by decide +kernel
theorem dL_law_765 : decode cL_law 765 = .ok (.iconst 3, 1) := by decide +kernel
theorem dL_law_766 : decode cL_law 766 = .ok (.iadd, 1) := by decide +kernel
theorem dL_law_767 : decode cL_law 767 = .ok (.iaload, 1) := by decide +kernel
theorem dL_law_768 : decode cL_law 768 = .ok (.invokevirtual 106, 3) := by decide +kernel
theorem dL_law_771 : decode cL_law 771 = .ok (.aload_n 2, 1) := by decide +kernel
theorem dL_law_772 : decode cL_law 772 = .ok (.aload_n 0, 1) := by decide +kernel
theorem dL_law_773 : decode cL_law 773 = .ok (.iload_n 3, 1) := by decide +kernel
theorem dL_law_774 : decode cL_law 774 = .ok (.iconst 1, 1) := by decide +kernel
theorem dL_law_775 : decode cL_law 775 = .ok (.iadd, 1) := by decide +kernel
theorem dL_law_776 : decode cL_law 776 = .ok (.iaload, 1) := by decide +kernel
theorem dL_law_777 : decode cL_law 777 = .ok (.aload_n 0, 1) := by decide +kernel
theorem dL_law_778 : decode cL_law 778 = .ok (.iload_n 3, 1) := by decide +kernel
theorem dL_law_779 : decode cL_law 779 = .ok (.iconst 2, 1) := by decide +kernel
theorem dL_law_780 : decode cL_law 780 = .ok (.iadd, 1) := by decide +kernel
theorem dL_law_781 : decode cL_law 781 = .ok (.iaload, 1) := by decide +kernel
theorem dL_law_782 : decode cL_law 782 = .ok (.aload_n 0, 1) := by decide +kernel
theorem dL_law_783 : decode cL_law 783 = .ok (.iload_n 3, 1) := by decide +kernel
theorem dL_law_784 : decode cL_law 784 = .ok (.iconst 3, 1) := by decide +kernel
theorem dL_law_785 : decode cL_law 785 = .ok (.iadd, 1) := by decide +kernel
theorem dL_law_786 : decode cL_law 786 = .ok (.iaload, 1) := by decide +kernel
theorem dL_law_787 : decode cL_law 787 = .ok (.invokevirtual 109, 3) := by decide +kernel
theorem dL_law_790 : decode cL_law 790 = .ok (.if_icmp .eq 97, 3) := by decide +kernel
theorem dL_law_793 : decode cL_law 793 = .ok (.iconst 0, 1) := by decide +kernel
theorem dL_law_794 : decode cL_law 794 = .ok (.ireturn, 1) := by decide +kernel
theorem dL_law_795 : decode cL_law 795 = .ok (.aload_n 1, 1) := by decide +kernel
theorem dL_law_796 : decode cL_law 796 = .ok (.aload_n 0, 1) := by decide +kernel
theorem dL_law_797 : decode cL_law 797 = .ok (.iload_n 3, 1) := by decide +kernel
theorem dL_law_798 : decode cL_law 798 = .ok (.iconst 1, 1) := by decide +kernel
theorem dL_law_799 : decode cL_law 799 = .ok (.iadd, 1) := by decide +kernel
theorem dL_law_800 : decode cL_law 800 = .ok (.iaload, 1) := by decide +kernel
theorem dL_law_801 : decode cL_law 801 = .ok (.aload_n 0, 1) := by decide +kernel
theorem dL_law_802 : decode cL_law 802 = .ok (.iload_n 3, 1) := by decide +kernel
theorem dL_law_803 : decode cL_law 803 = .ok (.iconst 2, 1) := by decide +kernel
theorem dL_law_804 : decode cL_law 804 = .ok (.iadd, 1) := by decide +kernel
theorem dL_law_805 : decode cL_law 805 = .ok (.iaload, 1) := by decide +kernel
theorem dL_law_806 : decode cL_law 806 = .ok (.aload_n 0, 1) := by decide +kernel
theorem dL_law_807 : decode cL_law 807 = .ok (.iload_n 3, 1) := by decide +kernel
theorem dL_law_808 : decode cL_law 808 = .ok (.iconst 3, 1) := by decide +kernel
theorem dL_law_809 : decode cL_law 809 = .ok (.iadd, 1) := by decide +kernel
theorem dL_law_810 : decode cL_law 810 = .ok (.iaload, 1) := by decide +kernel
theorem dL_law_811 : decode cL_law 811 = .ok (.invokevirtual 110, 3) := by decide +kernel
theorem dL_law_814 : decode cL_law 814 = .ok (.aload_n 2, 1) := by decide +kernel
theorem dL_law_815 : decode cL_law 815 = .ok (.aload_n 0, 1) := by decide +kernel
theorem dL_law_816 : decode cL_law 816 = .ok (.iload_n 3, 1) := by decide +kernel
theorem dL_law_817 : decode cL_law 817 = .ok (.iconst 1, 1) := by decide +kernel
theorem dL_law_818 : decode cL_law 818 = .ok (.iadd, 1) := by decide +kernel
theorem dL_law_819 : decode cL_law 819 = .ok (.iaload, 1) := by decide +kernel
theorem dL_law_820 : decode cL_law 820 = .ok (.aload_n 0, 1) := by decide +kernel
theorem dL_law_821 : decode cL_law 821 = .ok (.iload_n 3, 1) := by decide +kernel
theorem dL_law_822 : decode cL_law 822 = .ok (.iconst 2, 1) := by decide +kernel
theorem dL_law_823 : decode cL_law 823 = .ok (.iadd, 1) := by decide +kernel
theorem dL_law_824 : decode cL_law 824 = .ok (.iaload, 1) := by decide +kernel
theorem dL_law_825 : decode cL_law 825 = .ok (.aload_n 0, 1) := by decide +kernel
theorem dL_law_826 : decode cL_law 826 = .ok (.iload_n 3, 1) := by decide +kernel
theorem dL_law_827 : decode cL_law 827 = .ok (.iconst 3, 1) := by decide +kernel
theorem dL_law_828 : decode cL_law 828 = .ok (.iadd, 1) := by decide +kernel
theorem dL_law_829 : decode cL_law 829 = .ok (.iaload, 1) := by decide +kernel
theorem dL_law_830 : decode cL_law 830 = .ok (.invokevirtual 113, 3) := by decide +kernel
theorem dL_law_833 : decode cL_law 833 = .ok (.if_icmp .eq 54, 3) := by decide +kernel
theorem dL_law_836 : decode cL_law 836 = .ok (.iconst 0, 1) := by decide +kernel
theorem dL_law_837 : decode cL_law 837 = .ok (.ireturn, 1) := by decide +kernel
theorem dL_law_838 : decode cL_law 838 = .ok (.aload_n 1, 1) := by decide +kernel
theorem dL_law_839 : decode cL_law 839 = .ok (.invokevirtual 114, 3) := by decide +kernel
theorem dL_law_842 : decode cL_law 842 = .ok (.aload_n 2, 1) := by decide +kernel
theorem dL_law_843 : decode cL_law 843 = .ok (.invokevirtual 117, 3) := by decide +kernel
theorem dL_law_846 : decode cL_law 846 = .ok (.if_icmp .eq 41, 3) := by decide +kernel
theorem dL_law_849 : decode cL_law 849 = .ok (.iconst 0, 1) := by decide +kernel
theorem dL_law_850 : decode cL_law 850 = .ok (.ireturn, 1) := by decide +kernel
theorem dL_law_851 : decode cL_law 851 = .ok (.aload_n 1, 1) := by decide +kernel
theorem dL_law_852 : decode cL_law 852 = .ok (.invokevirtual 118, 3) := by decide +kernel
theorem dL_law_855 : decode cL_law 855 = .ok (.aload_n 2, 1) := by decide +kernel
theorem dL_law_856 : decode cL_law 856 = .ok (.invokevirtual 121, 3) := by decide +kernel
theorem dL_law_859 : decode cL_law 859 = .ok (.if_icmp .eq 28, 3) := by decide +kernel
theorem dL_law_862 : decode cL_law 862 = .ok (.iconst 0, 1) := by decide +kernel
theorem dL_law_863 : decode cL_law 863 = .ok (.ireturn, 1) := by decide +kernel
theorem dL_law_864 : decode cL_law 864 = .ok (.aload_n 1, 1) := by decide +kernel
theorem dL_law_865 : decode cL_law 865 = .ok (.aload_n 0, 1) := by decide +kernel
theorem dL_law_866 : decode cL_law 866 = .ok (.iload_n 3, 1) := by decide +kernel
theorem dL_law_867 : decode cL_law 867 = .ok (.iconst 1, 1) := by decide +kernel
theorem dL_law_868 : decode cL_law 868 = .ok (.iadd, 1) := by decide +kernel
theorem dL_law_869 : decode cL_law 869 = .ok (.iaload, 1) := by decide +kernel
theorem dL_law_870 : decode cL_law 870 = .ok (.invokevirtual 122, 3) := by decide +kernel
theorem dL_law_873 : decode cL_law 873 = .ok (.aload_n 2, 1) := by decide +kernel
theorem dL_law_874 : decode cL_law 874 = .ok (.aload_n 0, 1) := by decide +kernel
theorem dL_law_875 : decode cL_law 875 = .ok (.iload_n 3, 1) := by decide +kernel
theorem dL_law_876 : decode cL_law 876 = .ok (.iconst 1, 1) := by decide +kernel
theorem dL_law_877 : decode cL_law 877 = .ok (.iadd, 1) := by decide +kernel
theorem dL_law_878 : decode cL_law 878 = .ok (.iaload, 1) := by decide +kernel
theorem dL_law_879 : decode cL_law 879 = .ok (.invokevirtual 125, 3) := by decide +kernel
theorem dL_law_882 : decode cL_law 882 = .ok (.if_icmp .eq 5, 3) := by decide +kernel
theorem dL_law_885 : decode cL_law 885 = .ok (.iconst 0, 1) := by decide +kernel
theorem dL_law_886 : decode cL_law 886 = .ok (.ireturn, 1) := by decide +kernel
theorem dL_law_887 : decode cL_law 887 = .ok (.iinc 3 5, 3) := by decide +kernel
theorem dL_law_890 : decode cL_law 890 = .ok (.goto (-872), 3) := by decide +kernel
theorem dL_law_893 : decode cL_law 893 = .ok (.iconst 1, 1) := by decide +kernel
theorem dL_law_894 : decode cL_law 894 = .ok (.ireturn, 1) := by decide +kernel
theorem wq_458 : Cond.methodLink "CabTearsLaw" 13 ⟨"CabTears", "write", "(I)I"⟩ ∈ fl_U := fl_w1 458 (by decide +kernel) (by decide +kernel)
theorem wq_459 : Cond.instanceMethod ⟨"CabTears", "write", "(I)I"⟩ ∈ fl_U := fl_w1 459 (by decide +kernel) (by decide +kernel)
theorem wq_460 : Cond.selects "CabTears" ⟨"CabTears", "write", "(I)I"⟩ ⟨"CabTears", "write", "(I)I"⟩ ∈ fl_U := fl_w1 460 (by decide +kernel) (by decide +kernel)
theorem wq_461 : Cond.code ⟨"CabTears", "write", "(I)I"⟩ prog_1_method_2_code 2 (Option.some FieldType.int) ∈ fl_U := fl_w1 461 (by decide +kernel) (by decide +kernel)
theorem wq_463 : Cond.methodLink "CabTearsLaw" 18 ⟨"CabTears", "wipe", "()I"⟩ ∈ fl_U := fl_w1 463 (by decide +kernel) (by decide +kernel)
theorem wq_464 : Cond.instanceMethod ⟨"CabTears", "wipe", "()I"⟩ ∈ fl_U := fl_w1 464 (by decide +kernel) (by decide +kernel)
theorem wq_465 : Cond.selects "CabTears" ⟨"CabTears", "wipe", "()I"⟩ ⟨"CabTears", "wipe", "()I"⟩ ∈ fl_U := fl_w1 465 (by decide +kernel) (by decide +kernel)
theorem wq_466 : Cond.code ⟨"CabTears", "wipe", "()I"⟩ prog_1_method_3_code 2 (Option.some FieldType.int) ∈ fl_U := fl_w1 466 (by decide +kernel) (by decide +kernel)
theorem wq_467 : Cond.methodLink "CabTearsLaw" 23 ⟨"CabTears", "fault", "()I"⟩ ∈ fl_U := fl_w1 467 (by decide +kernel) (by decide +kernel)
theorem wq_468 : Cond.instanceMethod ⟨"CabTears", "fault", "()I"⟩ ∈ fl_U := fl_w1 468 (by decide +kernel) (by decide +kernel)
theorem wq_469 : Cond.selects "CabTears" ⟨"CabTears", "fault", "()I"⟩ ⟨"CabTears", "fault", "()I"⟩ ∈ fl_U := fl_w1 469 (by decide +kernel) (by decide +kernel)
theorem wq_470 : Cond.code ⟨"CabTears", "fault", "()I"⟩ prog_1_method_4_code 1 (Option.some FieldType.int) ∈ fl_U := fl_w1 470 (by decide +kernel) (by decide +kernel)
theorem wq_471 : Cond.methodLink "CabTearsLaw" 27 ⟨"CabTears", "lay", "()I"⟩ ∈ fl_U := fl_w1 471 (by decide +kernel) (by decide +kernel)
theorem wq_472 : Cond.instanceMethod ⟨"CabTears", "lay", "()I"⟩ ∈ fl_U := fl_w1 472 (by decide +kernel) (by decide +kernel)
theorem wq_473 : Cond.selects "CabTears" ⟨"CabTears", "lay", "()I"⟩ ⟨"CabTears", "lay", "()I"⟩ ∈ fl_U := fl_w1 473 (by decide +kernel) (by decide +kernel)
theorem wq_474 : Cond.code ⟨"CabTears", "lay", "()I"⟩ prog_1_method_5_code 1 (Option.some FieldType.int) ∈ fl_U := fl_w1 474 (by decide +kernel) (by decide +kernel)
theorem wq_476 : Cond.methodLink "CabTearsLaw" 31 ⟨"CabTears", "far", "(II)I"⟩ ∈ fl_U := fl_w1 476 (by decide +kernel) (by decide +kernel)
theorem wq_477 : Cond.instanceMethod ⟨"CabTears", "far", "(II)I"⟩ ∈ fl_U := fl_w1 477 (by decide +kernel) (by decide +kernel)
theorem wq_478 : Cond.selects "CabTears" ⟨"CabTears", "far", "(II)I"⟩ ⟨"CabTears", "far", "(II)I"⟩ ∈ fl_U := fl_w1 478 (by decide +kernel) (by decide +kernel)
theorem wq_479 : Cond.code ⟨"CabTears", "far", "(II)I"⟩ prog_1_method_6_code 3 (Option.some FieldType.int) ∈ fl_U := fl_w1 479 (by decide +kernel) (by decide +kernel)
theorem wq_489 : Cond.methodLink "CabTearsLaw" 36 ⟨"CabTears", "cab", "(II)I"⟩ ∈ fl_U := fl_w1 489 (by decide +kernel) (by decide +kernel)
theorem wq_490 : Cond.instanceMethod ⟨"CabTears", "cab", "(II)I"⟩ ∈ fl_U := fl_w1 490 (by decide +kernel) (by decide +kernel)
theorem wq_491 : Cond.selects "CabTears" ⟨"CabTears", "cab", "(II)I"⟩ ⟨"CabTears", "cab", "(II)I"⟩ ∈ fl_U := fl_w1 491 (by decide +kernel) (by decide +kernel)
theorem wq_492 : Cond.code ⟨"CabTears", "cab", "(II)I"⟩ prog_1_method_7_code 3 (Option.some FieldType.int) ∈ fl_U := fl_w1 492 (by decide +kernel) (by decide +kernel)
theorem wq_497 : Cond.methodLink "CabTearsLaw" 40 ⟨"CabTears", "fare", "(II)I"⟩ ∈ fl_U := fl_w1 497 (by decide +kernel) (by decide +kernel)
theorem wq_498 : Cond.instanceMethod ⟨"CabTears", "fare", "(II)I"⟩ ∈ fl_U := fl_w1 498 (by decide +kernel) (by decide +kernel)
theorem wq_499 : Cond.selects "CabTears" ⟨"CabTears", "fare", "(II)I"⟩ ⟨"CabTears", "fare", "(II)I"⟩ ∈ fl_U := fl_w1 499 (by decide +kernel) (by decide +kernel)
theorem wq_500 : Cond.code ⟨"CabTears", "fare", "(II)I"⟩ prog_1_method_8_code 3 (Option.some FieldType.int) ∈ fl_U := fl_w1 500 (by decide +kernel) (by decide +kernel)
theorem wq_509 : Cond.methodLink "CabTearsLaw" 44 ⟨"CabTears", "take", "(II)I"⟩ ∈ fl_U := fl_w1 509 (by decide +kernel) (by decide +kernel)
theorem wq_510 : Cond.instanceMethod ⟨"CabTears", "take", "(II)I"⟩ ∈ fl_U := fl_w1 510 (by decide +kernel) (by decide +kernel)
theorem wq_511 : Cond.selects "CabTears" ⟨"CabTears", "take", "(II)I"⟩ ⟨"CabTears", "take", "(II)I"⟩ ∈ fl_U := fl_w1 511 (by decide +kernel) (by decide +kernel)
theorem wq_512 : Cond.code ⟨"CabTears", "take", "(II)I"⟩ prog_1_method_9_code 3 (Option.some FieldType.int) ∈ fl_U := fl_w1 512 (by decide +kernel) (by decide +kernel)
theorem wq_541 : Cond.methodLink "CabTearsLaw" 48 ⟨"CabTears", "send", "(II)I"⟩ ∈ fl_U := fl_w1 541 (by decide +kernel) (by decide +kernel)
theorem wq_542 : Cond.instanceMethod ⟨"CabTears", "send", "(II)I"⟩ ∈ fl_U := fl_w1 542 (by decide +kernel) (by decide +kernel)
theorem wq_543 : Cond.selects "CabTears" ⟨"CabTears", "send", "(II)I"⟩ ⟨"CabTears", "send", "(II)I"⟩ ∈ fl_U := fl_w1 543 (by decide +kernel) (by decide +kernel)
theorem wq_544 : Cond.code ⟨"CabTears", "send", "(II)I"⟩ prog_1_method_10_code 3 (Option.some FieldType.int) ∈ fl_U := fl_w1 544 (by decide +kernel) (by decide +kernel)
theorem wq_549 : Cond.methodLink "CabTearsLaw" 52 ⟨"CabTears", "pass", "(I)I"⟩ ∈ fl_U := fl_w1 549 (by decide +kernel) (by decide +kernel)
theorem wq_550 : Cond.instanceMethod ⟨"CabTears", "pass", "(I)I"⟩ ∈ fl_U := fl_w1 550 (by decide +kernel) (by decide +kernel)
theorem wq_551 : Cond.selects "CabTears" ⟨"CabTears", "pass", "(I)I"⟩ ⟨"CabTears", "pass", "(I)I"⟩ ∈ fl_U := fl_w1 551 (by decide +kernel) (by decide +kernel)
theorem wq_552 : Cond.code ⟨"CabTears", "pass", "(I)I"⟩ prog_1_method_11_code 2 (Option.some FieldType.int) ∈ fl_U := fl_w1 552 (by decide +kernel) (by decide +kernel)
theorem wq_553 : Cond.methodLink "CabTearsLaw" 56 ⟨"CabTears", "undo", "()I"⟩ ∈ fl_U := fl_w1 553 (by decide +kernel) (by decide +kernel)
theorem wq_554 : Cond.instanceMethod ⟨"CabTears", "undo", "()I"⟩ ∈ fl_U := fl_w1 554 (by decide +kernel) (by decide +kernel)
theorem wq_555 : Cond.selects "CabTears" ⟨"CabTears", "undo", "()I"⟩ ⟨"CabTears", "undo", "()I"⟩ ∈ fl_U := fl_w1 555 (by decide +kernel) (by decide +kernel)
theorem wq_556 : Cond.code ⟨"CabTears", "undo", "()I"⟩ prog_1_method_12_code 1 (Option.some FieldType.int) ∈ fl_U := fl_w1 556 (by decide +kernel) (by decide +kernel)
theorem wq_561 : Cond.methodLink "CabTearsLaw" 60 ⟨"CabTears", "ride", "(III)I"⟩ ∈ fl_U := fl_w1 561 (by decide +kernel) (by decide +kernel)
theorem wq_562 : Cond.instanceMethod ⟨"CabTears", "ride", "(III)I"⟩ ∈ fl_U := fl_w1 562 (by decide +kernel) (by decide +kernel)
theorem wq_563 : Cond.selects "CabTears" ⟨"CabTears", "ride", "(III)I"⟩ ⟨"CabTears", "ride", "(III)I"⟩ ∈ fl_U := fl_w1 563 (by decide +kernel) (by decide +kernel)
theorem wq_564 : Cond.code ⟨"CabTears", "ride", "(III)I"⟩ prog_1_method_13_code 4 (Option.some FieldType.int) ∈ fl_U := fl_w1 564 (by decide +kernel) (by decide +kernel)
theorem wq_566 : Cond.methodLink "CabTearsLaw" 65 ⟨"CabTears", "soonest", "(I)I"⟩ ∈ fl_U := fl_w1 566 (by decide +kernel) (by decide +kernel)
theorem wq_567 : Cond.instanceMethod ⟨"CabTears", "soonest", "(I)I"⟩ ∈ fl_U := fl_w1 567 (by decide +kernel) (by decide +kernel)
theorem wq_568 : Cond.selects "CabTears" ⟨"CabTears", "soonest", "(I)I"⟩ ⟨"CabTears", "soonest", "(I)I"⟩ ∈ fl_U := fl_w1 568 (by decide +kernel) (by decide +kernel)
theorem wq_569 : Cond.code ⟨"CabTears", "soonest", "(I)I"⟩ prog_1_method_14_code 2 (Option.some FieldType.int) ∈ fl_U := fl_w1 569 (by decide +kernel) (by decide +kernel)
theorem wq_574 : Cond.methodLink "CabTearsLaw" 69 ⟨"CabTears", "order", "(I)I"⟩ ∈ fl_U := fl_w1 574 (by decide +kernel) (by decide +kernel)
theorem wq_575 : Cond.instanceMethod ⟨"CabTears", "order", "(I)I"⟩ ∈ fl_U := fl_w1 575 (by decide +kernel) (by decide +kernel)
theorem wq_576 : Cond.selects "CabTears" ⟨"CabTears", "order", "(I)I"⟩ ⟨"CabTears", "order", "(I)I"⟩ ∈ fl_U := fl_w1 576 (by decide +kernel) (by decide +kernel)
theorem wq_577 : Cond.code ⟨"CabTears", "order", "(I)I"⟩ prog_1_method_15_code 2 (Option.some FieldType.int) ∈ fl_U := fl_w1 577 (by decide +kernel) (by decide +kernel)
theorem wq_601 : Cond.methodLink "CabTearsLaw" 73 ⟨"CabTears", "waiting", "(II)I"⟩ ∈ fl_U := fl_w1 601 (by decide +kernel) (by decide +kernel)
theorem wq_602 : Cond.instanceMethod ⟨"CabTears", "waiting", "(II)I"⟩ ∈ fl_U := fl_w1 602 (by decide +kernel) (by decide +kernel)
theorem wq_603 : Cond.selects "CabTears" ⟨"CabTears", "waiting", "(II)I"⟩ ⟨"CabTears", "waiting", "(II)I"⟩ ∈ fl_U := fl_w1 603 (by decide +kernel) (by decide +kernel)
theorem wq_604 : Cond.code ⟨"CabTears", "waiting", "(II)I"⟩ prog_1_method_16_code 7 (Option.some FieldType.int) ∈ fl_U := fl_w1 604 (by decide +kernel) (by decide +kernel)
theorem wq_610 : Cond.methodLink "CabTearsLaw" 77 ⟨"CabTears", "round", "(I)I"⟩ ∈ fl_U := fl_w1 610 (by decide +kernel) (by decide +kernel)
theorem wq_611 : Cond.instanceMethod ⟨"CabTears", "round", "(I)I"⟩ ∈ fl_U := fl_w1 611 (by decide +kernel) (by decide +kernel)
theorem wq_612 : Cond.selects "CabTears" ⟨"CabTears", "round", "(I)I"⟩ ⟨"CabTears", "round", "(I)I"⟩ ∈ fl_U := fl_w1 612 (by decide +kernel) (by decide +kernel)
theorem wq_613 : Cond.code ⟨"CabTears", "round", "(I)I"⟩ prog_1_method_17_code 4 (Option.some FieldType.int) ∈ fl_U := fl_w1 613 (by decide +kernel) (by decide +kernel)
theorem wq_630 : Cond.methodLink "CabTearsLaw" 81 ⟨"CabTears", "mends", "(I)I"⟩ ∈ fl_U := fl_w1 630 (by decide +kernel) (by decide +kernel)
theorem wq_631 : Cond.instanceMethod ⟨"CabTears", "mends", "(I)I"⟩ ∈ fl_U := fl_w1 631 (by decide +kernel) (by decide +kernel)
theorem wq_632 : Cond.selects "CabTears" ⟨"CabTears", "mends", "(I)I"⟩ ⟨"CabTears", "mends", "(I)I"⟩ ∈ fl_U := fl_w1 632 (by decide +kernel) (by decide +kernel)
theorem wq_633 : Cond.code ⟨"CabTears", "mends", "(I)I"⟩ prog_1_method_18_code 3 (Option.some FieldType.int) ∈ fl_U := fl_w1 633 (by decide +kernel) (by decide +kernel)
theorem wq_638 : Cond.methodLink "CabTearsLaw" 85 ⟨"CabTears", "rivals", "(IIII)I"⟩ ∈ fl_U := fl_w1 638 (by decide +kernel) (by decide +kernel)
theorem wq_639 : Cond.instanceMethod ⟨"CabTears", "rivals", "(IIII)I"⟩ ∈ fl_U := fl_w1 639 (by decide +kernel) (by decide +kernel)
theorem wq_640 : Cond.selects "CabTears" ⟨"CabTears", "rivals", "(IIII)I"⟩ ⟨"CabTears", "rivals", "(IIII)I"⟩ ∈ fl_U := fl_w1 640 (by decide +kernel) (by decide +kernel)
theorem wq_641 : Cond.code ⟨"CabTears", "rivals", "(IIII)I"⟩ prog_1_method_19_code 6 (Option.some FieldType.int) ∈ fl_U := fl_w1 641 (by decide +kernel) (by decide +kernel)
theorem wq_654 : Cond.methodLink "CabTearsLaw" 90 ⟨"CabTears", "see", "(III)I"⟩ ∈ fl_U := fl_w1 654 (by decide +kernel) (by decide +kernel)
theorem wq_655 : Cond.instanceMethod ⟨"CabTears", "see", "(III)I"⟩ ∈ fl_U := fl_w1 655 (by decide +kernel) (by decide +kernel)
theorem wq_656 : Cond.selects "CabTears" ⟨"CabTears", "see", "(III)I"⟩ ⟨"CabTears", "see", "(III)I"⟩ ∈ fl_U := fl_w1 656 (by decide +kernel) (by decide +kernel)
theorem wq_657 : Cond.code ⟨"CabTears", "see", "(III)I"⟩ prog_1_method_20_code 4 (Option.some FieldType.int) ∈ fl_U := fl_w1 657 (by decide +kernel) (by decide +kernel)
theorem wq_662 : Cond.methodLink "CabTearsLaw" 94 ⟨"CabTears", "forget", "()I"⟩ ∈ fl_U := fl_w1 662 (by decide +kernel) (by decide +kernel)
theorem wq_663 : Cond.instanceMethod ⟨"CabTears", "forget", "()I"⟩ ∈ fl_U := fl_w1 663 (by decide +kernel) (by decide +kernel)
theorem wq_664 : Cond.selects "CabTears" ⟨"CabTears", "forget", "()I"⟩ ⟨"CabTears", "forget", "()I"⟩ ∈ fl_U := fl_w1 664 (by decide +kernel) (by decide +kernel)
theorem wq_665 : Cond.code ⟨"CabTears", "forget", "()I"⟩ prog_1_method_21_code 2 (Option.some FieldType.int) ∈ fl_U := fl_w1 665 (by decide +kernel) (by decide +kernel)
theorem wq_666 : Cond.methodLink "CabTearsLaw" 98 ⟨"CabTears", "wept", "(II)I"⟩ ∈ fl_U := fl_w1 666 (by decide +kernel) (by decide +kernel)
theorem wq_667 : Cond.instanceMethod ⟨"CabTears", "wept", "(II)I"⟩ ∈ fl_U := fl_w1 667 (by decide +kernel) (by decide +kernel)
theorem wq_668 : Cond.selects "CabTears" ⟨"CabTears", "wept", "(II)I"⟩ ⟨"CabTears", "wept", "(II)I"⟩ ∈ fl_U := fl_w1 668 (by decide +kernel) (by decide +kernel)
theorem wq_669 : Cond.code ⟨"CabTears", "wept", "(II)I"⟩ prog_1_method_22_code 6 (Option.some FieldType.int) ∈ fl_U := fl_w1 669 (by decide +kernel) (by decide +kernel)
theorem wq_675 : Cond.methodLink "CabTearsLaw" 102 ⟨"CabTears", "kinds", "(I)I"⟩ ∈ fl_U := fl_w1 675 (by decide +kernel) (by decide +kernel)
theorem wq_676 : Cond.instanceMethod ⟨"CabTears", "kinds", "(I)I"⟩ ∈ fl_U := fl_w1 676 (by decide +kernel) (by decide +kernel)
theorem wq_677 : Cond.selects "CabTears" ⟨"CabTears", "kinds", "(I)I"⟩ ⟨"CabTears", "kinds", "(I)I"⟩ ∈ fl_U := fl_w1 677 (by decide +kernel) (by decide +kernel)
theorem wq_678 : Cond.code ⟨"CabTears", "kinds", "(I)I"⟩ prog_1_method_23_code 4 (Option.some FieldType.int) ∈ fl_U := fl_w1 678 (by decide +kernel) (by decide +kernel)
theorem wq_679 : Cond.methodLink "CabTearsLaw" 106 ⟨"CabTears", "tears", "(III)I"⟩ ∈ fl_U := fl_w1 679 (by decide +kernel) (by decide +kernel)
theorem wq_680 : Cond.instanceMethod ⟨"CabTears", "tears", "(III)I"⟩ ∈ fl_U := fl_w1 680 (by decide +kernel) (by decide +kernel)
theorem wq_681 : Cond.selects "CabTears" ⟨"CabTears", "tears", "(III)I"⟩ ⟨"CabTears", "tears", "(III)I"⟩ ∈ fl_U := fl_w1 681 (by decide +kernel) (by decide +kernel)
theorem wq_682 : Cond.code ⟨"CabTears", "tears", "(III)I"⟩ prog_1_method_24_code 10 (Option.some FieldType.int) ∈ fl_U := fl_w1 682 (by decide +kernel) (by decide +kernel)
theorem wq_702 : Cond.methodLink "CabTearsLaw" 110 ⟨"CabTears", "year", "(III)I"⟩ ∈ fl_U := fl_w1 702 (by decide +kernel) (by decide +kernel)
theorem wq_703 : Cond.instanceMethod ⟨"CabTears", "year", "(III)I"⟩ ∈ fl_U := fl_w1 703 (by decide +kernel) (by decide +kernel)
theorem wq_704 : Cond.selects "CabTears" ⟨"CabTears", "year", "(III)I"⟩ ⟨"CabTears", "year", "(III)I"⟩ ∈ fl_U := fl_w1 704 (by decide +kernel) (by decide +kernel)
theorem wq_705 : Cond.code ⟨"CabTears", "year", "(III)I"⟩ prog_1_method_25_code 10 (Option.some FieldType.int) ∈ fl_U := fl_w1 705 (by decide +kernel) (by decide +kernel)
theorem wq_712 : Cond.methodLink "CabTearsLaw" 114 ⟨"CabTears", "keep", "()I"⟩ ∈ fl_U := fl_w1 712 (by decide +kernel) (by decide +kernel)
theorem wq_713 : Cond.instanceMethod ⟨"CabTears", "keep", "()I"⟩ ∈ fl_U := fl_w1 713 (by decide +kernel) (by decide +kernel)
theorem wq_714 : Cond.selects "CabTears" ⟨"CabTears", "keep", "()I"⟩ ⟨"CabTears", "keep", "()I"⟩ ∈ fl_U := fl_w1 714 (by decide +kernel) (by decide +kernel)
theorem wq_715 : Cond.code ⟨"CabTears", "keep", "()I"⟩ prog_1_method_26_code 1 (Option.some FieldType.int) ∈ fl_U := fl_w1 715 (by decide +kernel) (by decide +kernel)
theorem wq_716 : Cond.methodLink "CabTearsLaw" 118 ⟨"CabTears", "back", "()I"⟩ ∈ fl_U := fl_w1 716 (by decide +kernel) (by decide +kernel)
theorem wq_717 : Cond.instanceMethod ⟨"CabTears", "back", "()I"⟩ ∈ fl_U := fl_w1 717 (by decide +kernel) (by decide +kernel)
theorem wq_718 : Cond.selects "CabTears" ⟨"CabTears", "back", "()I"⟩ ⟨"CabTears", "back", "()I"⟩ ∈ fl_U := fl_w1 718 (by decide +kernel) (by decide +kernel)
theorem wq_719 : Cond.code ⟨"CabTears", "back", "()I"⟩ prog_1_method_27_code 1 (Option.some FieldType.int) ∈ fl_U := fl_w1 719 (by decide +kernel) (by decide +kernel)
theorem wq_720 : Cond.methodLink "CabTearsLaw" 122 ⟨"CabTears", "count", "(I)I"⟩ ∈ fl_U := fl_w1 720 (by decide +kernel) (by decide +kernel)
theorem wq_721 : Cond.instanceMethod ⟨"CabTears", "count", "(I)I"⟩ ∈ fl_U := fl_w1 721 (by decide +kernel) (by decide +kernel)
theorem wq_722 : Cond.selects "CabTears" ⟨"CabTears", "count", "(I)I"⟩ ⟨"CabTears", "count", "(I)I"⟩ ∈ fl_U := fl_w1 722 (by decide +kernel) (by decide +kernel)
theorem wq_723 : Cond.code ⟨"CabTears", "count", "(I)I"⟩ prog_1_method_28_code 2 (Option.some FieldType.int) ∈ fl_U := fl_w1 723 (by decide +kernel) (by decide +kernel)
theorem wq_843 : Cond.methodLink "CabTearsLaw" 17 ⟨"CabTearsModel", "write", "(I)I"⟩ ∈ fl_U := fl_w1 843 (by decide +kernel) (by decide +kernel)
theorem wq_844 : Cond.instanceMethod ⟨"CabTearsModel", "write", "(I)I"⟩ ∈ fl_U := fl_w1 844 (by decide +kernel) (by decide +kernel)
theorem wq_845 : Cond.selects "CabTearsModel" ⟨"CabTearsModel", "write", "(I)I"⟩ ⟨"CabTearsModel", "write", "(I)I"⟩ ∈ fl_U := fl_w1 845 (by decide +kernel) (by decide +kernel)
theorem wq_846 : Cond.code ⟨"CabTearsModel", "write", "(I)I"⟩ prog_11_method_14_code 2 (Option.some FieldType.int) ∈ fl_U := fl_w1 846 (by decide +kernel) (by decide +kernel)
theorem wq_852 : Cond.methodLink "CabTearsLaw" 22 ⟨"CabTearsModel", "wipe", "()I"⟩ ∈ fl_U := fl_w1 852 (by decide +kernel) (by decide +kernel)
theorem wq_853 : Cond.instanceMethod ⟨"CabTearsModel", "wipe", "()I"⟩ ∈ fl_U := fl_w1 853 (by decide +kernel) (by decide +kernel)
theorem wq_854 : Cond.selects "CabTearsModel" ⟨"CabTearsModel", "wipe", "()I"⟩ ⟨"CabTearsModel", "wipe", "()I"⟩ ∈ fl_U := fl_w1 854 (by decide +kernel) (by decide +kernel)
theorem wq_855 : Cond.code ⟨"CabTearsModel", "wipe", "()I"⟩ prog_11_method_15_code 2 (Option.some FieldType.int) ∈ fl_U := fl_w1 855 (by decide +kernel) (by decide +kernel)
theorem wq_856 : Cond.methodLink "CabTearsLaw" 26 ⟨"CabTearsModel", "fault", "()I"⟩ ∈ fl_U := fl_w1 856 (by decide +kernel) (by decide +kernel)
theorem wq_857 : Cond.instanceMethod ⟨"CabTearsModel", "fault", "()I"⟩ ∈ fl_U := fl_w1 857 (by decide +kernel) (by decide +kernel)
theorem wq_858 : Cond.selects "CabTearsModel" ⟨"CabTearsModel", "fault", "()I"⟩ ⟨"CabTearsModel", "fault", "()I"⟩ ∈ fl_U := fl_w1 858 (by decide +kernel) (by decide +kernel)
theorem wq_859 : Cond.code ⟨"CabTearsModel", "fault", "()I"⟩ prog_11_method_23_code 1 (Option.some FieldType.int) ∈ fl_U := fl_w1 859 (by decide +kernel) (by decide +kernel)
theorem wq_890 : Cond.methodLink "CabTearsLaw" 30 ⟨"CabTearsModel", "lay", "()I"⟩ ∈ fl_U := fl_w1 890 (by decide +kernel) (by decide +kernel)
theorem wq_891 : Cond.instanceMethod ⟨"CabTearsModel", "lay", "()I"⟩ ∈ fl_U := fl_w1 891 (by decide +kernel) (by decide +kernel)
theorem wq_892 : Cond.selects "CabTearsModel" ⟨"CabTearsModel", "lay", "()I"⟩ ⟨"CabTearsModel", "lay", "()I"⟩ ∈ fl_U := fl_w1 892 (by decide +kernel) (by decide +kernel)
theorem wq_893 : Cond.code ⟨"CabTearsModel", "lay", "()I"⟩ prog_11_method_24_code 1 (Option.some FieldType.int) ∈ fl_U := fl_w1 893 (by decide +kernel) (by decide +kernel)
theorem wq_898 : Cond.methodLink "CabTearsLaw" 35 ⟨"CabTearsModel", "far", "(II)I"⟩ ∈ fl_U := fl_w1 898 (by decide +kernel) (by decide +kernel)
theorem wq_899 : Cond.instanceMethod ⟨"CabTearsModel", "far", "(II)I"⟩ ∈ fl_U := fl_w1 899 (by decide +kernel) (by decide +kernel)
theorem wq_900 : Cond.selects "CabTearsModel" ⟨"CabTearsModel", "far", "(II)I"⟩ ⟨"CabTearsModel", "far", "(II)I"⟩ ∈ fl_U := fl_w1 900 (by decide +kernel) (by decide +kernel)
theorem wq_901 : Cond.code ⟨"CabTearsModel", "far", "(II)I"⟩ prog_11_method_26_code 3 (Option.some FieldType.int) ∈ fl_U := fl_w1 901 (by decide +kernel) (by decide +kernel)
theorem wq_910 : Cond.methodLink "CabTearsLaw" 39 ⟨"CabTearsModel", "cab", "(II)I"⟩ ∈ fl_U := fl_w1 910 (by decide +kernel) (by decide +kernel)
theorem wq_911 : Cond.instanceMethod ⟨"CabTearsModel", "cab", "(II)I"⟩ ∈ fl_U := fl_w1 911 (by decide +kernel) (by decide +kernel)
theorem wq_912 : Cond.selects "CabTearsModel" ⟨"CabTearsModel", "cab", "(II)I"⟩ ⟨"CabTearsModel", "cab", "(II)I"⟩ ∈ fl_U := fl_w1 912 (by decide +kernel) (by decide +kernel)
theorem wq_913 : Cond.code ⟨"CabTearsModel", "cab", "(II)I"⟩ prog_11_method_27_code 3 (Option.some FieldType.int) ∈ fl_U := fl_w1 913 (by decide +kernel) (by decide +kernel)
theorem wq_918 : Cond.methodLink "CabTearsLaw" 43 ⟨"CabTearsModel", "fare", "(II)I"⟩ ∈ fl_U := fl_w1 918 (by decide +kernel) (by decide +kernel)
theorem wq_919 : Cond.instanceMethod ⟨"CabTearsModel", "fare", "(II)I"⟩ ∈ fl_U := fl_w1 919 (by decide +kernel) (by decide +kernel)
theorem wq_920 : Cond.selects "CabTearsModel" ⟨"CabTearsModel", "fare", "(II)I"⟩ ⟨"CabTearsModel", "fare", "(II)I"⟩ ∈ fl_U := fl_w1 920 (by decide +kernel) (by decide +kernel)
theorem wq_921 : Cond.code ⟨"CabTearsModel", "fare", "(II)I"⟩ prog_11_method_28_code 3 (Option.some FieldType.int) ∈ fl_U := fl_w1 921 (by decide +kernel) (by decide +kernel)
theorem wq_926 : Cond.methodLink "CabTearsLaw" 47 ⟨"CabTearsModel", "take", "(II)I"⟩ ∈ fl_U := fl_w1 926 (by decide +kernel) (by decide +kernel)
theorem wq_927 : Cond.instanceMethod ⟨"CabTearsModel", "take", "(II)I"⟩ ∈ fl_U := fl_w1 927 (by decide +kernel) (by decide +kernel)
theorem wq_928 : Cond.selects "CabTearsModel" ⟨"CabTearsModel", "take", "(II)I"⟩ ⟨"CabTearsModel", "take", "(II)I"⟩ ∈ fl_U := fl_w1 928 (by decide +kernel) (by decide +kernel)
theorem wq_929 : Cond.code ⟨"CabTearsModel", "take", "(II)I"⟩ prog_11_method_38_code 3 (Option.some FieldType.int) ∈ fl_U := fl_w1 929 (by decide +kernel) (by decide +kernel)
theorem wq_969 : Cond.methodLink "CabTearsLaw" 51 ⟨"CabTearsModel", "send", "(II)I"⟩ ∈ fl_U := fl_w1 969 (by decide +kernel) (by decide +kernel)
theorem wq_970 : Cond.instanceMethod ⟨"CabTearsModel", "send", "(II)I"⟩ ∈ fl_U := fl_w1 970 (by decide +kernel) (by decide +kernel)
theorem wq_971 : Cond.selects "CabTearsModel" ⟨"CabTearsModel", "send", "(II)I"⟩ ⟨"CabTearsModel", "send", "(II)I"⟩ ∈ fl_U := fl_w1 971 (by decide +kernel) (by decide +kernel)
theorem wq_972 : Cond.code ⟨"CabTearsModel", "send", "(II)I"⟩ prog_11_method_40_code 3 (Option.some FieldType.int) ∈ fl_U := fl_w1 972 (by decide +kernel) (by decide +kernel)
theorem wq_977 : Cond.methodLink "CabTearsLaw" 55 ⟨"CabTearsModel", "pass", "(I)I"⟩ ∈ fl_U := fl_w1 977 (by decide +kernel) (by decide +kernel)
theorem wq_978 : Cond.instanceMethod ⟨"CabTearsModel", "pass", "(I)I"⟩ ∈ fl_U := fl_w1 978 (by decide +kernel) (by decide +kernel)
theorem wq_979 : Cond.selects "CabTearsModel" ⟨"CabTearsModel", "pass", "(I)I"⟩ ⟨"CabTearsModel", "pass", "(I)I"⟩ ∈ fl_U := fl_w1 979 (by decide +kernel) (by decide +kernel)
theorem wq_980 : Cond.code ⟨"CabTearsModel", "pass", "(I)I"⟩ prog_11_method_41_code 2 (Option.some FieldType.int) ∈ fl_U := fl_w1 980 (by decide +kernel) (by decide +kernel)
theorem wq_982 : Cond.methodLink "CabTearsLaw" 59 ⟨"CabTearsModel", "undo", "()I"⟩ ∈ fl_U := fl_w1 982 (by decide +kernel) (by decide +kernel)
theorem wq_983 : Cond.instanceMethod ⟨"CabTearsModel", "undo", "()I"⟩ ∈ fl_U := fl_w1 983 (by decide +kernel) (by decide +kernel)
theorem wq_984 : Cond.selects "CabTearsModel" ⟨"CabTearsModel", "undo", "()I"⟩ ⟨"CabTearsModel", "undo", "()I"⟩ ∈ fl_U := fl_w1 984 (by decide +kernel) (by decide +kernel)
theorem wq_985 : Cond.code ⟨"CabTearsModel", "undo", "()I"⟩ prog_11_method_42_code 1 (Option.some FieldType.int) ∈ fl_U := fl_w1 985 (by decide +kernel) (by decide +kernel)
theorem wq_986 : Cond.methodLink "CabTearsLaw" 64 ⟨"CabTearsModel", "ride", "(III)I"⟩ ∈ fl_U := fl_w1 986 (by decide +kernel) (by decide +kernel)
theorem wq_987 : Cond.instanceMethod ⟨"CabTearsModel", "ride", "(III)I"⟩ ∈ fl_U := fl_w1 987 (by decide +kernel) (by decide +kernel)
theorem wq_988 : Cond.selects "CabTearsModel" ⟨"CabTearsModel", "ride", "(III)I"⟩ ⟨"CabTearsModel", "ride", "(III)I"⟩ ∈ fl_U := fl_w1 988 (by decide +kernel) (by decide +kernel)
theorem wq_989 : Cond.code ⟨"CabTearsModel", "ride", "(III)I"⟩ prog_11_method_44_code 5 (Option.some FieldType.int) ∈ fl_U := fl_w1 989 (by decide +kernel) (by decide +kernel)
theorem wq_990 : Cond.methodLink "CabTearsLaw" 68 ⟨"CabTearsModel", "soonest", "(I)I"⟩ ∈ fl_U := fl_w1 990 (by decide +kernel) (by decide +kernel)
theorem wq_991 : Cond.instanceMethod ⟨"CabTearsModel", "soonest", "(I)I"⟩ ∈ fl_U := fl_w1 991 (by decide +kernel) (by decide +kernel)
theorem wq_992 : Cond.selects "CabTearsModel" ⟨"CabTearsModel", "soonest", "(I)I"⟩ ⟨"CabTearsModel", "soonest", "(I)I"⟩ ∈ fl_U := fl_w1 992 (by decide +kernel) (by decide +kernel)
theorem wq_993 : Cond.code ⟨"CabTearsModel", "soonest", "(I)I"⟩ prog_11_method_45_code 2 (Option.some FieldType.int) ∈ fl_U := fl_w1 993 (by decide +kernel) (by decide +kernel)
theorem wq_998 : Cond.methodLink "CabTearsLaw" 72 ⟨"CabTearsModel", "order", "(I)I"⟩ ∈ fl_U := fl_w1 998 (by decide +kernel) (by decide +kernel)
theorem wq_999 : Cond.instanceMethod ⟨"CabTearsModel", "order", "(I)I"⟩ ∈ fl_U := fl_w1 999 (by decide +kernel) (by decide +kernel)
theorem wq_1000 : Cond.selects "CabTearsModel" ⟨"CabTearsModel", "order", "(I)I"⟩ ⟨"CabTearsModel", "order", "(I)I"⟩ ∈ fl_U := fl_w1 1000 (by decide +kernel) (by decide +kernel)
theorem wq_1001 : Cond.code ⟨"CabTearsModel", "order", "(I)I"⟩ prog_11_method_48_code 3 (Option.some FieldType.int) ∈ fl_U := fl_w1 1001 (by decide +kernel) (by decide +kernel)
theorem wq_1015 : Cond.methodLink "CabTearsLaw" 76 ⟨"CabTearsModel", "waiting", "(II)I"⟩ ∈ fl_U := fl_w1 1015 (by decide +kernel) (by decide +kernel)
theorem wq_1016 : Cond.instanceMethod ⟨"CabTearsModel", "waiting", "(II)I"⟩ ∈ fl_U := fl_w1 1016 (by decide +kernel) (by decide +kernel)
theorem wq_1017 : Cond.selects "CabTearsModel" ⟨"CabTearsModel", "waiting", "(II)I"⟩ ⟨"CabTearsModel", "waiting", "(II)I"⟩ ∈ fl_U := fl_w1 1017 (by decide +kernel) (by decide +kernel)
theorem wq_1018 : Cond.code ⟨"CabTearsModel", "waiting", "(II)I"⟩ prog_11_method_49_code 8 (Option.some FieldType.int) ∈ fl_U := fl_w1 1018 (by decide +kernel) (by decide +kernel)
theorem wq_1023 : Cond.methodLink "CabTearsLaw" 80 ⟨"CabTearsModel", "round", "(I)I"⟩ ∈ fl_U := fl_w1 1023 (by decide +kernel) (by decide +kernel)
theorem wq_1024 : Cond.instanceMethod ⟨"CabTearsModel", "round", "(I)I"⟩ ∈ fl_U := fl_w1 1024 (by decide +kernel) (by decide +kernel)
theorem wq_1025 : Cond.selects "CabTearsModel" ⟨"CabTearsModel", "round", "(I)I"⟩ ⟨"CabTearsModel", "round", "(I)I"⟩ ∈ fl_U := fl_w1 1025 (by decide +kernel) (by decide +kernel)
theorem wq_1026 : Cond.code ⟨"CabTearsModel", "round", "(I)I"⟩ prog_11_method_52_code 4 (Option.some FieldType.int) ∈ fl_U := fl_w1 1026 (by decide +kernel) (by decide +kernel)
theorem wq_1035 : Cond.methodLink "CabTearsLaw" 84 ⟨"CabTearsModel", "mends", "(I)I"⟩ ∈ fl_U := fl_w1 1035 (by decide +kernel) (by decide +kernel)
theorem wq_1036 : Cond.instanceMethod ⟨"CabTearsModel", "mends", "(I)I"⟩ ∈ fl_U := fl_w1 1036 (by decide +kernel) (by decide +kernel)
theorem wq_1037 : Cond.selects "CabTearsModel" ⟨"CabTearsModel", "mends", "(I)I"⟩ ⟨"CabTearsModel", "mends", "(I)I"⟩ ∈ fl_U := fl_w1 1037 (by decide +kernel) (by decide +kernel)
theorem wq_1038 : Cond.code ⟨"CabTearsModel", "mends", "(I)I"⟩ prog_11_method_54_code 2 (Option.some FieldType.int) ∈ fl_U := fl_w1 1038 (by decide +kernel) (by decide +kernel)
theorem wq_1043 : Cond.methodLink "CabTearsLaw" 89 ⟨"CabTearsModel", "rivals", "(IIII)I"⟩ ∈ fl_U := fl_w1 1043 (by decide +kernel) (by decide +kernel)
theorem wq_1044 : Cond.instanceMethod ⟨"CabTearsModel", "rivals", "(IIII)I"⟩ ∈ fl_U := fl_w1 1044 (by decide +kernel) (by decide +kernel)
theorem wq_1045 : Cond.selects "CabTearsModel" ⟨"CabTearsModel", "rivals", "(IIII)I"⟩ ⟨"CabTearsModel", "rivals", "(IIII)I"⟩ ∈ fl_U := fl_w1 1045 (by decide +kernel) (by decide +kernel)
theorem wq_1046 : Cond.code ⟨"CabTearsModel", "rivals", "(IIII)I"⟩ prog_11_method_55_code 15 (Option.some FieldType.int) ∈ fl_U := fl_w1 1046 (by decide +kernel) (by decide +kernel)
theorem wq_1048 : Cond.methodLink "CabTearsLaw" 93 ⟨"CabTearsModel", "see", "(III)I"⟩ ∈ fl_U := fl_w1 1048 (by decide +kernel) (by decide +kernel)
theorem wq_1049 : Cond.instanceMethod ⟨"CabTearsModel", "see", "(III)I"⟩ ∈ fl_U := fl_w1 1049 (by decide +kernel) (by decide +kernel)
theorem wq_1050 : Cond.selects "CabTearsModel" ⟨"CabTearsModel", "see", "(III)I"⟩ ⟨"CabTearsModel", "see", "(III)I"⟩ ∈ fl_U := fl_w1 1050 (by decide +kernel) (by decide +kernel)
theorem wq_1051 : Cond.code ⟨"CabTearsModel", "see", "(III)I"⟩ prog_11_method_56_code 4 (Option.some FieldType.int) ∈ fl_U := fl_w1 1051 (by decide +kernel) (by decide +kernel)
theorem wq_1053 : Cond.methodLink "CabTearsLaw" 97 ⟨"CabTearsModel", "forget", "()I"⟩ ∈ fl_U := fl_w1 1053 (by decide +kernel) (by decide +kernel)
theorem wq_1054 : Cond.instanceMethod ⟨"CabTearsModel", "forget", "()I"⟩ ∈ fl_U := fl_w1 1054 (by decide +kernel) (by decide +kernel)
theorem wq_1055 : Cond.selects "CabTearsModel" ⟨"CabTearsModel", "forget", "()I"⟩ ⟨"CabTearsModel", "forget", "()I"⟩ ∈ fl_U := fl_w1 1055 (by decide +kernel) (by decide +kernel)
theorem wq_1056 : Cond.code ⟨"CabTearsModel", "forget", "()I"⟩ prog_11_method_57_code 2 (Option.some FieldType.int) ∈ fl_U := fl_w1 1056 (by decide +kernel) (by decide +kernel)
theorem wq_1057 : Cond.methodLink "CabTearsLaw" 101 ⟨"CabTearsModel", "wept", "(II)I"⟩ ∈ fl_U := fl_w1 1057 (by decide +kernel) (by decide +kernel)
theorem wq_1058 : Cond.instanceMethod ⟨"CabTearsModel", "wept", "(II)I"⟩ ∈ fl_U := fl_w1 1058 (by decide +kernel) (by decide +kernel)
theorem wq_1059 : Cond.selects "CabTearsModel" ⟨"CabTearsModel", "wept", "(II)I"⟩ ⟨"CabTearsModel", "wept", "(II)I"⟩ ∈ fl_U := fl_w1 1059 (by decide +kernel) (by decide +kernel)
theorem wq_1060 : Cond.code ⟨"CabTearsModel", "wept", "(II)I"⟩ prog_11_method_59_code 7 (Option.some FieldType.int) ∈ fl_U := fl_w1 1060 (by decide +kernel) (by decide +kernel)
theorem wq_1065 : Cond.methodLink "CabTearsLaw" 105 ⟨"CabTearsModel", "kinds", "(I)I"⟩ ∈ fl_U := fl_w1 1065 (by decide +kernel) (by decide +kernel)
theorem wq_1066 : Cond.instanceMethod ⟨"CabTearsModel", "kinds", "(I)I"⟩ ∈ fl_U := fl_w1 1066 (by decide +kernel) (by decide +kernel)
theorem wq_1067 : Cond.selects "CabTearsModel" ⟨"CabTearsModel", "kinds", "(I)I"⟩ ⟨"CabTearsModel", "kinds", "(I)I"⟩ ∈ fl_U := fl_w1 1067 (by decide +kernel) (by decide +kernel)
theorem wq_1068 : Cond.code ⟨"CabTearsModel", "kinds", "(I)I"⟩ prog_11_method_60_code 5 (Option.some FieldType.int) ∈ fl_U := fl_w1 1068 (by decide +kernel) (by decide +kernel)
theorem wq_1069 : Cond.methodLink "CabTearsLaw" 109 ⟨"CabTearsModel", "tears", "(III)I"⟩ ∈ fl_U := fl_w1 1069 (by decide +kernel) (by decide +kernel)
theorem wq_1070 : Cond.instanceMethod ⟨"CabTearsModel", "tears", "(III)I"⟩ ∈ fl_U := fl_w1 1070 (by decide +kernel) (by decide +kernel)
theorem wq_1071 : Cond.selects "CabTearsModel" ⟨"CabTearsModel", "tears", "(III)I"⟩ ⟨"CabTearsModel", "tears", "(III)I"⟩ ∈ fl_U := fl_w1 1071 (by decide +kernel) (by decide +kernel)
theorem wq_1072 : Cond.code ⟨"CabTearsModel", "tears", "(III)I"⟩ prog_11_method_61_code 13 (Option.some FieldType.int) ∈ fl_U := fl_w1 1072 (by decide +kernel) (by decide +kernel)
theorem wq_1074 : Cond.methodLink "CabTearsLaw" 113 ⟨"CabTearsModel", "year", "(III)I"⟩ ∈ fl_U := fl_w1 1074 (by decide +kernel) (by decide +kernel)
theorem wq_1075 : Cond.instanceMethod ⟨"CabTearsModel", "year", "(III)I"⟩ ∈ fl_U := fl_w1 1075 (by decide +kernel) (by decide +kernel)
theorem wq_1076 : Cond.selects "CabTearsModel" ⟨"CabTearsModel", "year", "(III)I"⟩ ⟨"CabTearsModel", "year", "(III)I"⟩ ∈ fl_U := fl_w1 1076 (by decide +kernel) (by decide +kernel)
theorem wq_1077 : Cond.code ⟨"CabTearsModel", "year", "(III)I"⟩ prog_11_method_62_code 11 (Option.some FieldType.int) ∈ fl_U := fl_w1 1077 (by decide +kernel) (by decide +kernel)
theorem wq_1083 : Cond.methodLink "CabTearsLaw" 117 ⟨"CabTearsModel", "keep", "()I"⟩ ∈ fl_U := fl_w1 1083 (by decide +kernel) (by decide +kernel)
theorem wq_1084 : Cond.instanceMethod ⟨"CabTearsModel", "keep", "()I"⟩ ∈ fl_U := fl_w1 1084 (by decide +kernel) (by decide +kernel)
theorem wq_1085 : Cond.selects "CabTearsModel" ⟨"CabTearsModel", "keep", "()I"⟩ ⟨"CabTearsModel", "keep", "()I"⟩ ∈ fl_U := fl_w1 1085 (by decide +kernel) (by decide +kernel)
theorem wq_1086 : Cond.code ⟨"CabTearsModel", "keep", "()I"⟩ prog_11_method_63_code 1 (Option.some FieldType.int) ∈ fl_U := fl_w1 1086 (by decide +kernel) (by decide +kernel)
theorem wq_1087 : Cond.methodLink "CabTearsLaw" 121 ⟨"CabTearsModel", "back", "()I"⟩ ∈ fl_U := fl_w1 1087 (by decide +kernel) (by decide +kernel)
theorem wq_1088 : Cond.instanceMethod ⟨"CabTearsModel", "back", "()I"⟩ ∈ fl_U := fl_w1 1088 (by decide +kernel) (by decide +kernel)
theorem wq_1089 : Cond.selects "CabTearsModel" ⟨"CabTearsModel", "back", "()I"⟩ ⟨"CabTearsModel", "back", "()I"⟩ ∈ fl_U := fl_w1 1089 (by decide +kernel) (by decide +kernel)
theorem wq_1090 : Cond.code ⟨"CabTearsModel", "back", "()I"⟩ prog_11_method_64_code 1 (Option.some FieldType.int) ∈ fl_U := fl_w1 1090 (by decide +kernel) (by decide +kernel)
theorem wq_1091 : Cond.methodLink "CabTearsLaw" 125 ⟨"CabTearsModel", "count", "(I)I"⟩ ∈ fl_U := fl_w1 1091 (by decide +kernel) (by decide +kernel)
theorem wq_1092 : Cond.instanceMethod ⟨"CabTearsModel", "count", "(I)I"⟩ ∈ fl_U := fl_w1 1092 (by decide +kernel) (by decide +kernel)
theorem wq_1093 : Cond.selects "CabTearsModel" ⟨"CabTearsModel", "count", "(I)I"⟩ ⟨"CabTearsModel", "count", "(I)I"⟩ ∈ fl_U := fl_w1 1093 (by decide +kernel) (by decide +kernel)
theorem wq_1094 : Cond.code ⟨"CabTearsModel", "count", "(I)I"⟩ prog_11_method_65_code 2 (Option.some FieldType.int) ∈ fl_U := fl_w1 1094 (by decide +kernel) (by decide +kernel)
theorem mv_L_13 : fl_mv RL 13 8 yX8_write cX8_write 2 (some .int) 1 := fl_mv_of (T := TX8) (N := 11) rfl wq_458 wq_459 wq_460 wq_45 wq_461 ⟨by decide +kernel, by decide +kernel, by decide +kernel⟩
theorem mv_L_18 : fl_mv RL 18 8 yX8_wipe cX8_wipe 2 (some .int) 0 := fl_mv_of (T := TX8) (N := 11) rfl wq_463 wq_464 wq_465 wq_45 wq_466 ⟨by decide +kernel, by decide +kernel, by decide +kernel⟩
theorem mv_L_23 : fl_mv RL 23 8 yX8_fault cX8_fault 1 (some .int) 0 := fl_mv_of (T := TX8) (N := 11) rfl wq_467 wq_468 wq_469 wq_45 wq_470 ⟨by decide +kernel, by decide +kernel, by decide +kernel⟩
theorem mv_L_27 : fl_mv RL 27 8 yX8_lay cX8_lay 1 (some .int) 0 := fl_mv_of (T := TX8) (N := 11) rfl wq_471 wq_472 wq_473 wq_45 wq_474 ⟨by decide +kernel, by decide +kernel, by decide +kernel⟩
theorem mv_L_31 : fl_mv RL 31 8 yX8_far cX8_far 3 (some .int) 2 := fl_mv_of (T := TX8) (N := 11) rfl wq_476 wq_477 wq_478 wq_45 wq_479 ⟨by decide +kernel, by decide +kernel, by decide +kernel⟩
theorem mv_L_36 : fl_mv RL 36 8 yX8_cab cX8_cab 3 (some .int) 2 := fl_mv_of (T := TX8) (N := 11) rfl wq_489 wq_490 wq_491 wq_45 wq_492 ⟨by decide +kernel, by decide +kernel, by decide +kernel⟩
theorem mv_L_40 : fl_mv RL 40 8 yX8_fare cX8_fare 3 (some .int) 2 := fl_mv_of (T := TX8) (N := 11) rfl wq_497 wq_498 wq_499 wq_45 wq_500 ⟨by decide +kernel, by decide +kernel, by decide +kernel⟩
theorem mv_L_44 : fl_mv RL 44 8 yX8_take cX8_take 3 (some .int) 2 := fl_mv_of (T := TX8) (N := 11) rfl wq_509 wq_510 wq_511 wq_45 wq_512 ⟨by decide +kernel, by decide +kernel, by decide +kernel⟩
theorem mv_L_48 : fl_mv RL 48 8 yX8_send cX8_send 3 (some .int) 2 := fl_mv_of (T := TX8) (N := 11) rfl wq_541 wq_542 wq_543 wq_45 wq_544 ⟨by decide +kernel, by decide +kernel, by decide +kernel⟩
theorem mv_L_52 : fl_mv RL 52 8 yX8_pass cX8_pass 2 (some .int) 1 := fl_mv_of (T := TX8) (N := 11) rfl wq_549 wq_550 wq_551 wq_45 wq_552 ⟨by decide +kernel, by decide +kernel, by decide +kernel⟩
theorem mv_L_56 : fl_mv RL 56 8 yX8_undo cX8_undo 1 (some .int) 0 := fl_mv_of (T := TX8) (N := 11) rfl wq_553 wq_554 wq_555 wq_45 wq_556 ⟨by decide +kernel, by decide +kernel, by decide +kernel⟩
theorem mv_L_60 : fl_mv RL 60 8 yX8_ride cX8_ride 4 (some .int) 3 := fl_mv_of (T := TX8) (N := 11) rfl wq_561 wq_562 wq_563 wq_45 wq_564 ⟨by decide +kernel, by decide +kernel, by decide +kernel⟩
theorem mv_L_65 : fl_mv RL 65 8 yX8_soonest cX8_soonest 2 (some .int) 1 := fl_mv_of (T := TX8) (N := 11) rfl wq_566 wq_567 wq_568 wq_45 wq_569 ⟨by decide +kernel, by decide +kernel, by decide +kernel⟩
theorem mv_L_69 : fl_mv RL 69 8 yX8_order cX8_order 2 (some .int) 1 := fl_mv_of (T := TX8) (N := 11) rfl wq_574 wq_575 wq_576 wq_45 wq_577 ⟨by decide +kernel, by decide +kernel, by decide +kernel⟩
theorem mv_L_73 : fl_mv RL 73 8 yX8_waiting cX8_waiting 7 (some .int) 2 := fl_mv_of (T := TX8) (N := 11) rfl wq_601 wq_602 wq_603 wq_45 wq_604 ⟨by decide +kernel, by decide +kernel, by decide +kernel⟩
theorem mv_L_77 : fl_mv RL 77 8 yX8_round cX8_round 4 (some .int) 1 := fl_mv_of (T := TX8) (N := 11) rfl wq_610 wq_611 wq_612 wq_45 wq_613 ⟨by decide +kernel, by decide +kernel, by decide +kernel⟩
theorem mv_L_81 : fl_mv RL 81 8 yX8_mends cX8_mends 3 (some .int) 1 := fl_mv_of (T := TX8) (N := 11) rfl wq_630 wq_631 wq_632 wq_45 wq_633 ⟨by decide +kernel, by decide +kernel, by decide +kernel⟩
theorem mv_L_85 : fl_mv RL 85 8 yX8_rivals cX8_rivals 6 (some .int) 4 := fl_mv_of (T := TX8) (N := 11) rfl wq_638 wq_639 wq_640 wq_45 wq_641 ⟨by decide +kernel, by decide +kernel, by decide +kernel⟩
theorem mv_L_90 : fl_mv RL 90 8 yX8_see cX8_see 4 (some .int) 3 := fl_mv_of (T := TX8) (N := 11) rfl wq_654 wq_655 wq_656 wq_45 wq_657 ⟨by decide +kernel, by decide +kernel, by decide +kernel⟩
theorem mv_L_94 : fl_mv RL 94 8 yX8_forget cX8_forget 2 (some .int) 0 := fl_mv_of (T := TX8) (N := 11) rfl wq_662 wq_663 wq_664 wq_45 wq_665 ⟨by decide +kernel, by decide +kernel, by decide +kernel⟩
theorem mv_L_98 : fl_mv RL 98 8 yX8_wept cX8_wept 6 (some .int) 2 := fl_mv_of (T := TX8) (N := 11) rfl wq_666 wq_667 wq_668 wq_45 wq_669 ⟨by decide +kernel, by decide +kernel, by decide +kernel⟩
theorem mv_L_102 : fl_mv RL 102 8 yX8_kinds cX8_kinds 4 (some .int) 1 := fl_mv_of (T := TX8) (N := 11) rfl wq_675 wq_676 wq_677 wq_45 wq_678 ⟨by decide +kernel, by decide +kernel, by decide +kernel⟩
theorem mv_L_106 : fl_mv RL 106 8 yX8_tears cX8_tears 10 (some .int) 3 := fl_mv_of (T := TX8) (N := 11) rfl wq_679 wq_680 wq_681 wq_45 wq_682 ⟨by decide +kernel, by decide +kernel, by decide +kernel⟩
theorem mv_L_110 : fl_mv RL 110 8 yX8_year cX8_year 10 (some .int) 3 := fl_mv_of (T := TX8) (N := 11) rfl wq_702 wq_703 wq_704 wq_45 wq_705 ⟨by decide +kernel, by decide +kernel, by decide +kernel⟩
theorem mv_L_114 : fl_mv RL 114 8 yX8_keep cX8_keep 1 (some .int) 0 := fl_mv_of (T := TX8) (N := 11) rfl wq_712 wq_713 wq_714 wq_45 wq_715 ⟨by decide +kernel, by decide +kernel, by decide +kernel⟩
theorem mv_L_118 : fl_mv RL 118 8 yX8_back cX8_back 1 (some .int) 0 := fl_mv_of (T := TX8) (N := 11) rfl wq_716 wq_717 wq_718 wq_45 wq_719 ⟨by decide +kernel, by decide +kernel, by decide +kernel⟩
theorem mv_L_122 : fl_mv RL 122 8 yX8_count cX8_count 2 (some .int) 1 := fl_mv_of (T := TX8) (N := 11) rfl wq_720 wq_721 wq_722 wq_45 wq_723 ⟨by decide +kernel, by decide +kernel, by decide +kernel⟩
theorem mv_L_17 : fl_mv RL 17 9 yX9_write cX9_write 2 (some .int) 1 := fl_mv_of (T := TX9) (N := 32) rfl wq_843 wq_844 wq_845 wq_60 wq_846 ⟨by decide +kernel, by decide +kernel, by decide +kernel⟩
theorem mv_L_22 : fl_mv RL 22 9 yX9_wipe cX9_wipe 2 (some .int) 0 := fl_mv_of (T := TX9) (N := 32) rfl wq_852 wq_853 wq_854 wq_60 wq_855 ⟨by decide +kernel, by decide +kernel, by decide +kernel⟩
theorem mv_L_26 : fl_mv RL 26 9 yX9_fault cX9_fault 1 (some .int) 0 := fl_mv_of (T := TX9) (N := 32) rfl wq_856 wq_857 wq_858 wq_60 wq_859 ⟨by decide +kernel, by decide +kernel, by decide +kernel⟩
theorem mv_L_30 : fl_mv RL 30 9 yX9_lay cX9_lay 1 (some .int) 0 := fl_mv_of (T := TX9) (N := 32) rfl wq_890 wq_891 wq_892 wq_60 wq_893 ⟨by decide +kernel, by decide +kernel, by decide +kernel⟩
theorem mv_L_35 : fl_mv RL 35 9 yX9_far cX9_far 3 (some .int) 2 := fl_mv_of (T := TX9) (N := 32) rfl wq_898 wq_899 wq_900 wq_60 wq_901 ⟨by decide +kernel, by decide +kernel, by decide +kernel⟩
theorem mv_L_39 : fl_mv RL 39 9 yX9_cab cX9_cab 3 (some .int) 2 := fl_mv_of (T := TX9) (N := 32) rfl wq_910 wq_911 wq_912 wq_60 wq_913 ⟨by decide +kernel, by decide +kernel, by decide +kernel⟩
theorem mv_L_43 : fl_mv RL 43 9 yX9_fare cX9_fare 3 (some .int) 2 := fl_mv_of (T := TX9) (N := 32) rfl wq_918 wq_919 wq_920 wq_60 wq_921 ⟨by decide +kernel, by decide +kernel, by decide +kernel⟩
theorem mv_L_47 : fl_mv RL 47 9 yX9_take cX9_take 3 (some .int) 2 := fl_mv_of (T := TX9) (N := 32) rfl wq_926 wq_927 wq_928 wq_60 wq_929 ⟨by decide +kernel, by decide +kernel, by decide +kernel⟩
theorem mv_L_51 : fl_mv RL 51 9 yX9_send cX9_send 3 (some .int) 2 := fl_mv_of (T := TX9) (N := 32) rfl wq_969 wq_970 wq_971 wq_60 wq_972 ⟨by decide +kernel, by decide +kernel, by decide +kernel⟩
theorem mv_L_55 : fl_mv RL 55 9 yX9_pass cX9_pass 2 (some .int) 1 := fl_mv_of (T := TX9) (N := 32) rfl wq_977 wq_978 wq_979 wq_60 wq_980 ⟨by decide +kernel, by decide +kernel, by decide +kernel⟩
theorem mv_L_59 : fl_mv RL 59 9 yX9_undo cX9_undo 1 (some .int) 0 := fl_mv_of (T := TX9) (N := 32) rfl wq_982 wq_983 wq_984 wq_60 wq_985 ⟨by decide +kernel, by decide +kernel, by decide +kernel⟩
theorem mv_L_64 : fl_mv RL 64 9 yX9_ride cX9_ride 5 (some .int) 3 := fl_mv_of (T := TX9) (N := 32) rfl wq_986 wq_987 wq_988 wq_60 wq_989 ⟨by decide +kernel, by decide +kernel, by decide +kernel⟩
theorem mv_L_68 : fl_mv RL 68 9 yX9_soonest cX9_soonest 2 (some .int) 1 := fl_mv_of (T := TX9) (N := 32) rfl wq_990 wq_991 wq_992 wq_60 wq_993 ⟨by decide +kernel, by decide +kernel, by decide +kernel⟩
theorem mv_L_72 : fl_mv RL 72 9 yX9_order cX9_order 3 (some .int) 1 := fl_mv_of (T := TX9) (N := 32) rfl wq_998 wq_999 wq_1000 wq_60 wq_1001 ⟨by decide +kernel, by decide +kernel, by decide +kernel⟩
theorem mv_L_76 : fl_mv RL 76 9 yX9_waiting cX9_waiting 8 (some .int) 2 := fl_mv_of (T := TX9) (N := 32) rfl wq_1015 wq_1016 wq_1017 wq_60 wq_1018 ⟨by decide +kernel, by decide +kernel, by decide +kernel⟩
theorem mv_L_80 : fl_mv RL 80 9 yX9_round cX9_round 4 (some .int) 1 := fl_mv_of (T := TX9) (N := 32) rfl wq_1023 wq_1024 wq_1025 wq_60 wq_1026 ⟨by decide +kernel, by decide +kernel, by decide +kernel⟩
theorem mv_L_84 : fl_mv RL 84 9 yX9_mends cX9_mends 2 (some .int) 1 := fl_mv_of (T := TX9) (N := 32) rfl wq_1035 wq_1036 wq_1037 wq_60 wq_1038 ⟨by decide +kernel, by decide +kernel, by decide +kernel⟩
theorem mv_L_89 : fl_mv RL 89 9 yX9_rivals cX9_rivals 15 (some .int) 4 := fl_mv_of (T := TX9) (N := 32) rfl wq_1043 wq_1044 wq_1045 wq_60 wq_1046 ⟨by decide +kernel, by decide +kernel, by decide +kernel⟩
theorem mv_L_93 : fl_mv RL 93 9 yX9_see cX9_see 4 (some .int) 3 := fl_mv_of (T := TX9) (N := 32) rfl wq_1048 wq_1049 wq_1050 wq_60 wq_1051 ⟨by decide +kernel, by decide +kernel, by decide +kernel⟩
theorem mv_L_97 : fl_mv RL 97 9 yX9_forget cX9_forget 2 (some .int) 0 := fl_mv_of (T := TX9) (N := 32) rfl wq_1053 wq_1054 wq_1055 wq_60 wq_1056 ⟨by decide +kernel, by decide +kernel, by decide +kernel⟩
theorem mv_L_101 : fl_mv RL 101 9 yX9_wept cX9_wept 7 (some .int) 2 := fl_mv_of (T := TX9) (N := 32) rfl wq_1057 wq_1058 wq_1059 wq_60 wq_1060 ⟨by decide +kernel, by decide +kernel, by decide +kernel⟩
theorem mv_L_105 : fl_mv RL 105 9 yX9_kinds cX9_kinds 5 (some .int) 1 := fl_mv_of (T := TX9) (N := 32) rfl wq_1065 wq_1066 wq_1067 wq_60 wq_1068 ⟨by decide +kernel, by decide +kernel, by decide +kernel⟩
theorem mv_L_109 : fl_mv RL 109 9 yX9_tears cX9_tears 13 (some .int) 3 := fl_mv_of (T := TX9) (N := 32) rfl wq_1069 wq_1070 wq_1071 wq_60 wq_1072 ⟨by decide +kernel, by decide +kernel, by decide +kernel⟩
theorem mv_L_113 : fl_mv RL 113 9 yX9_year cX9_year 11 (some .int) 3 := fl_mv_of (T := TX9) (N := 32) rfl wq_1074 wq_1075 wq_1076 wq_60 wq_1077 ⟨by decide +kernel, by decide +kernel, by decide +kernel⟩
theorem mv_L_117 : fl_mv RL 117 9 yX9_keep cX9_keep 1 (some .int) 0 := fl_mv_of (T := TX9) (N := 32) rfl wq_1083 wq_1084 wq_1085 wq_60 wq_1086 ⟨by decide +kernel, by decide +kernel, by decide +kernel⟩
theorem mv_L_121 : fl_mv RL 121 9 yX9_back cX9_back 1 (some .int) 0 := fl_mv_of (T := TX9) (N := 32) rfl wq_1087 wq_1088 wq_1089 wq_60 wq_1090 ⟨by decide +kernel, by decide +kernel, by decide +kernel⟩
theorem mv_L_125 : fl_mv RL 125 9 yX9_count cX9_count 2 (some .int) 1 := fl_mv_of (T := TX9) (N := 32) rfl wq_1091 wq_1092 wq_1093 wq_60 wq_1094 ⟨by decide +kernel, by decide +kernel, by decide +kernel⟩
