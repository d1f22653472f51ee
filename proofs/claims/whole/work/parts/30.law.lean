/-! ===== the law: its loop over an invariant, its start ===== -/
theorem dL_law_0 : decode cL_law 0 = .ok (.new 7, 3) := by decide +kernel
theorem dL_law_3 : decode cL_law 3 = .ok (.dup, 1) := by decide +kernel
theorem dL_law_4 : decode cL_law 4 = .ok (.invokespecial 9, 3) := by decide +kernel
theorem dL_law_7 : decode cL_law 7 = .ok (.astore_n 1, 1) := by decide +kernel
theorem dL_law_8 : decode cL_law 8 = .ok (.new 10, 3) := by decide +kernel
theorem dL_law_11 : decode cL_law 11 = .ok (.dup, 1) := by decide +kernel
theorem dL_law_12 : decode cL_law 12 = .ok (.invokespecial 12, 3) := by decide +kernel
theorem dL_law_15 : decode cL_law 15 = .ok (.astore_n 2, 1) := by decide +kernel
theorem dL_law_16 : decode cL_law 16 = .ok (.iconst 0, 1) := by decide +kernel
theorem dL_law_17 : decode cL_law 17 = .ok (.istore_n 3, 1) := by decide +kernel
theorem dL_law_18 : decode cL_law 18 = .ok (.iload_n 3, 1) := by decide +kernel
theorem dL_law_19 : decode cL_law 19 = .ok (.aload_n 0, 1) := by decide +kernel
theorem dL_law_20 : decode cL_law 20 = .ok (.arraylength, 1) := by decide +kernel
theorem dL_law_21 : decode cL_law 21 = .ok (.iconst 4, 1) := by decide +kernel
theorem dL_law_22 : decode cL_law 22 = .ok (.isub, 1) := by decide +kernel
theorem dL_law_23 : decode cL_law 23 = .ok (.if_icmp .gt 794, 3) := by decide +kernel
theorem dL_law_26 : decode cL_law 26 = .ok (.aload_n 0, 1) := by decide +kernel
theorem dL_law_27 : decode cL_law 27 = .ok (.iload_n 3, 1) := by decide +kernel
theorem dL_law_28 : decode cL_law 28 = .ok (.iaload, 1) := by decide +kernel
theorem dL_law_29 : decode cL_law 29 = .ok (.bipush 31, 2) := by decide +kernel
theorem dL_law_31 : decode cL_law 31 = .ok (.iand, 1) := by decide +kernel
theorem dL_law_32 : decode cL_law 32 = .ok (.tableswitch 779 0 25 #[120, 143, 156, 169, 192, 215, 248, 281, 314, 337, 360, 393, 416, 429, 442, 475, 488, 521, 544, 587, 630, 663, 696, 719, 742, 765], 120) := by decide +kernel
theorem dL_law_152 : decode cL_law 152 = .ok (.aload_n 1, 1) := by decide +kernel
theorem dL_law_153 : decode cL_law 153 = .ok (.aload_n 0, 1) := by decide +kernel
theorem dL_law_154 : decode cL_law 154 = .ok (.iload_n 3, 1) := by decide +kernel
theorem dL_law_155 : decode cL_law 155 = .ok (.iconst 1, 1) := by decide +kernel
theorem dL_law_156 : decode cL_law 156 = .ok (.iadd, 1) := by decide +kernel
theorem dL_law_157 : decode cL_law 157 = .ok (.iaload, 1) := by decide +kernel
theorem dL_law_158 : decode cL_law 158 = .ok (.invokevirtual 13, 3) := by decide +kernel
theorem dL_law_161 : decode cL_law 161 = .ok (.aload_n 2, 1) := by decide +kernel
theorem dL_law_162 : decode cL_law 162 = .ok (.aload_n 0, 1) := by decide +kernel
theorem dL_law_163 : decode cL_law 163 = .ok (.iload_n 3, 1) := by decide +kernel
theorem dL_law_164 : decode cL_law 164 = .ok (.iconst 1, 1) := by decide +kernel
theorem dL_law_165 : decode cL_law 165 = .ok (.iadd, 1) := by decide +kernel
theorem dL_law_166 : decode cL_law 166 = .ok (.iaload, 1) := by decide +kernel
theorem dL_law_167 : decode cL_law 167 = .ok (.invokevirtual 17, 3) := by decide +kernel
theorem dL_law_170 : decode cL_law 170 = .ok (.if_icmp .eq 641, 3) := by decide +kernel
theorem dL_law_173 : decode cL_law 173 = .ok (.iconst 0, 1) := by decide +kernel
theorem dL_law_174 : decode cL_law 174 = .ok (.ireturn, 1) := by decide +kernel
theorem dL_law_175 : decode cL_law 175 = .ok (.aload_n 1, 1) := by decide +kernel
theorem dL_law_176 : decode cL_law 176 = .ok (.invokevirtual 18, 3) := by decide +kernel
theorem dL_law_179 : decode cL_law 179 = .ok (.aload_n 2, 1) := by decide +kernel
theorem dL_law_180 : decode cL_law 180 = .ok (.invokevirtual 22, 3) := by decide +kernel
theorem dL_law_183 : decode cL_law 183 = .ok (.if_icmp .eq 628, 3) := by decide +kernel
theorem dL_law_186 : decode cL_law 186 = .ok (.iconst 0, 1) := by decide +kernel
theorem dL_law_187 : decode cL_law 187 = .ok (.ireturn, 1) := by decide +kernel
theorem dL_law_188 : decode cL_law 188 = .ok (.aload_n 1, 1) := by decide +kernel
theorem dL_law_189 : decode cL_law 189 = .ok (.invokevirtual 23, 3) := by decide +kernel
theorem dL_law_192 : decode cL_law 192 = .ok (.aload_n 2, 1) := by decide +kernel
theorem dL_law_193 : decode cL_law 193 = .ok (.invokevirtual 26, 3) := by decide +kernel
theorem dL_law_196 : decode cL_law 196 = .ok (.if_icmp .eq 615, 3) := by decide +kernel
theorem dL_law_199 : decode cL_law 199 = .ok (.iconst 0, 1) := by decide +kernel
theorem dL_law_200 : decode cL_law 200 = .ok (.ireturn, 1) := by decide +kernel
theorem dL_law_201 : decode cL_law 201 = .ok (.aload_n 1, 1) := by decide +kernel
theorem dL_law_202 : decode cL_law 202 = .ok (.aload_n 0, 1) := by decide +kernel
theorem dL_law_203 : decode cL_law 203 = .ok (.iload_n 3, 1) := by decide +kernel
theorem dL_law_204 : decode cL_law 204 = .ok (.iconst 1, 1) := by decide +kernel
theorem dL_law_205 : decode cL_law 205 = .ok (.iadd, 1) := by decide +kernel
theorem dL_law_206 : decode cL_law 206 = .ok (.iaload, 1) := by decide +kernel
theorem dL_law_207 : decode cL_law 207 = .ok (.invokevirtual 27, 3) := by decide +kernel
theorem dL_law_210 : decode cL_law 210 = .ok (.aload_n 2, 1) := by decide +kernel
theorem dL_law_211 : decode cL_law 211 = .ok (.aload_n 0, 1) := by decide +kernel
theorem dL_law_212 : decode cL_law 212 = .ok (.iload_n 3, 1) := by decide +kernel
theorem dL_law_213 : decode cL_law 213 = .ok (.iconst 1, 1) := by decide +kernel
theorem dL_law_214 : decode cL_law 214 = .ok (.iadd, 1) := by decide +kernel
theorem dL_law_215 : decode cL_law 215 = .ok (.iaload, 1) := by decide +kernel
theorem dL_law_216 : decode cL_law 216 = .ok (.invokevirtual 30, 3) := by decide +kernel
theorem dL_law_219 : decode cL_law 219 = .ok (.if_icmp .eq 592, 3) := by decide +kernel
theorem dL_law_222 : decode cL_law 222 = .ok (.iconst 0, 1) := by decide +kernel
theorem dL_law_223 : decode cL_law 223 = .ok (.ireturn, 1) := by decide +kernel
theorem dL_law_224 : decode cL_law 224 = .ok (.aload_n 1, 1) := by decide +kernel
theorem dL_law_225 : decode cL_law 225 = .ok (.aload_n 0, 1) := by decide +kernel
theorem dL_law_226 : decode cL_law 226 = .ok (.iload_n 3, 1) := by decide +kernel
theorem dL_law_227 : decode cL_law 227 = .ok (.iconst 1, 1) := by decide +kernel
theorem dL_law_228 : decode cL_law 228 = .ok (.iadd, 1) := by decide +kernel
theorem dL_law_229 : decode cL_law 229 = .ok (.iaload, 1) := by decide +kernel
theorem dL_law_230 : decode cL_law 230 = .ok (.invokevirtual 31, 3) := by decide +kernel
theorem dL_law_233 : decode cL_law 233 = .ok (.aload_n 2, 1) := by decide +kernel
theorem dL_law_234 : decode cL_law 234 = .ok (.aload_n 0, 1) := by decide +kernel
theorem dL_law_235 : decode cL_law 235 = .ok (.iload_n 3, 1) := by decide +kernel
theorem dL_law_236 : decode cL_law 236 = .ok (.iconst 1, 1) := by decide +kernel
theorem dL_law_237 : decode cL_law 237 = .ok (.iadd, 1) := by decide +kernel
theorem dL_law_238 : decode cL_law 238 = .ok (.iaload, 1) := by decide +kernel
theorem dL_law_239 : decode cL_law 239 = .ok (.invokevirtual 34, 3) := by decide +kernel
theorem dL_law_242 : decode cL_law 242 = .ok (.if_icmp .eq 569, 3) := by decide +kernel
theorem dL_law_245 : decode cL_law 245 = .ok (.iconst 0, 1) := by decide +kernel
theorem dL_law_246 : decode cL_law 246 = .ok (.ireturn, 1) := by decide +kernel
theorem dL_law_247 : decode cL_law 247 = .ok (.aload_n 1, 1) := by decide +kernel
theorem dL_law_248 : decode cL_law 248 = .ok (.aload_n 0, 1) := by decide +kernel
theorem dL_law_249 : decode cL_law 249 = .ok (.iload_n 3, 1) := by decide +kernel
theorem dL_law_250 : decode cL_law 250 = .ok (.iconst 1, 1) := by decide +kernel
theorem dL_law_251 : decode cL_law 251 = .ok (.iadd, 1) := by decide +kernel
theorem dL_law_252 : decode cL_law 252 = .ok (.iaload, 1) := by decide +kernel
theorem dL_law_253 : decode cL_law 253 = .ok (.aload_n 0, 1) := by decide +kernel
theorem dL_law_254 : decode cL_law 254 = .ok (.iload_n 3, 1) := by decide +kernel
theorem dL_law_255 : decode cL_law 255 = .ok (.iconst 2, 1) := by decide +kernel
theorem dL_law_256 : decode cL_law 256 = .ok (.iadd, 1) := by decide +kernel
theorem dL_law_257 : decode cL_law 257 = .ok (.iaload, 1) := by decide +kernel
theorem dL_law_258 : decode cL_law 258 = .ok (.invokevirtual 35, 3) := by decide +kernel
theorem dL_law_261 : decode cL_law 261 = .ok (.aload_n 2, 1) := by decide +kernel
theorem dL_law_262 : decode cL_law 262 = .ok (.aload_n 0, 1) := by decide +kernel
theorem dL_law_263 : decode cL_law 263 = .ok (.iload_n 3, 1) := by decide +kernel
theorem dL_law_264 : decode cL_law 264 = .ok (.iconst 1, 1) := by decide +kernel
theorem dL_law_265 : decode cL_law 265 = .ok (.iadd, 1) := by decide +kernel
theorem dL_law_266 : decode cL_law 266 = .ok (.iaload, 1) := by decide +kernel
theorem dL_law_267 : decode cL_law 267 = .ok (.aload_n 0, 1) := by decide +kernel
theorem dL_law_268 : decode cL_law 268 = .ok (.iload_n 3, 1) := by decide +kernel
theorem dL_law_269 : decode cL_law 269 = .ok (.iconst 2, 1) := by decide +kernel
theorem dL_law_270 : decode cL_law 270 = .ok (.iadd, 1) := by decide +kernel
theorem dL_law_271 : decode cL_law 271 = .ok (.iaload, 1) := by decide +kernel
theorem dL_law_272 : decode cL_law 272 = .ok (.invokevirtual 39, 3) := by decide +kernel
theorem dL_law_275 : decode cL_law 275 = .ok (.if_icmp .eq 536, 3) := by decide +kernel
theorem dL_law_278 : decode cL_law 278 = .ok (.iconst 0, 1) := by decide +kernel
theorem dL_law_279 : decode cL_law 279 = .ok (.ireturn, 1) := by decide +kernel
theorem dL_law_280 : decode cL_law 280 = .ok (.aload_n 1, 1) := by decide +kernel
theorem dL_law_281 : decode cL_law 281 = .ok (.aload_n 0, 1) := by decide +kernel
theorem dL_law_282 : decode cL_law 282 = .ok (.iload_n 3, 1) := by decide +kernel
theorem dL_law_283 : decode cL_law 283 = .ok (.iconst 1, 1) := by decide +kernel
theorem dL_law_284 : decode cL_law 284 = .ok (.iadd, 1) := by decide +kernel
theorem dL_law_285 : decode cL_law 285 = .ok (.iaload, 1) := by decide +kernel
theorem dL_law_286 : decode cL_law 286 = .ok (.aload_n 0, 1) := by decide +kernel
theorem dL_law_287 : decode cL_law 287 = .ok (.iload_n 3, 1) := by decide +kernel
theorem dL_law_288 : decode cL_law 288 = .ok (.iconst 2, 1) := by decide +kernel
theorem dL_law_289 : decode cL_law 289 = .ok (.iadd, 1) := by decide +kernel
theorem dL_law_290 : decode cL_law 290 = .ok (.iaload, 1) := by decide +kernel
theorem dL_law_291 : decode cL_law 291 = .ok (.invokevirtual 40, 3) := by decide +kernel
theorem dL_law_294 : decode cL_law 294 = .ok (.aload_n 2, 1) := by decide +kernel
theorem dL_law_295 : decode cL_law 295 = .ok (.aload_n 0, 1) := by decide +kernel
theorem dL_law_296 : decode cL_law 296 = .ok (.iload_n 3, 1) := by decide +kernel
theorem dL_law_297 : decode cL_law 297 = .ok (.iconst 1, 1) := by decide +kernel
theorem dL_law_298 : decode cL_law 298 = .ok (.iadd, 1) := by decide +kernel
theorem dL_law_299 : decode cL_law 299 = .ok (.iaload, 1) := by decide +kernel
theorem dL_law_300 : decode cL_law 300 = .ok (.aload_n 0, 1) := by decide +kernel
theorem dL_law_301 : decode cL_law 301 = .ok (.iload_n 3, 1) := by decide +kernel
theorem dL_law_302 : decode cL_law 302 = .ok (.iconst 2, 1) := by decide +kernel
theorem dL_law_303 : decode cL_law 303 = .ok (.iadd, 1) := by decide +kernel
theorem dL_law_304 : decode cL_law 304 = .ok (.iaload, 1) := by decide +kernel
theorem dL_law_305 : decode cL_law 305 = .ok (.invokevirtual 43, 3) := by decide +kernel
theorem dL_law_308 : decode cL_law 308 = .ok (.if_icmp .eq 503, 3) := by decide +kernel
theorem dL_law_311 : decode cL_law 311 = .ok (.iconst 0, 1) := by decide +kernel
theorem dL_law_312 : decode cL_law 312 = .ok (.ireturn, 1) := by decide +kernel
theorem dL_law_313 : decode cL_law 313 = .ok (.aload_n 1, 1) := by decide +kernel
theorem dL_law_314 : decode cL_law 314 = .ok (.aload_n 0, 1) := by decide +kernel
theorem dL_law_315 : decode cL_law 315 = .ok (.iload_n 3, 1) := by decide +kernel
theorem dL_law_316 : decode cL_law 316 = .ok (.iconst 1, 1) := by decide +kernel
theorem dL_law_317 : decode cL_law 317 = .ok (.iadd, 1) := by decide +kernel
theorem dL_law_318 : decode cL_law 318 = .ok (.iaload, 1) := by decide +kernel
theorem dL_law_319 : decode cL_law 319 = .ok (.aload_n 0, 1) := by decide +kernel
theorem dL_law_320 : decode cL_law 320 = .ok (.iload_n 3, 1) := by decide +kernel
theorem dL_law_321 : decode cL_law 321 = .ok (.iconst 2, 1) := by decide +kernel
theorem dL_law_322 : decode cL_law 322 = .ok (.iadd, 1) := by decide +kernel
theorem dL_law_323 : decode cL_law 323 = .ok (.iaload, 1) := by decide +kernel
theorem dL_law_324 : decode cL_law 324 = .ok (.invokevirtual 44, 3) := by decide +kernel
theorem dL_law_327 : decode cL_law 327 = .ok (.aload_n 2, 1) := by decide +kernel
theorem dL_law_328 : decode cL_law 328 = .ok (.aload_n 0, 1) := by decide +kernel
theorem dL_law_329 : decode cL_law 329 = .ok (.iload_n 3, 1) := by decide +kernel
theorem dL_law_330 : decode cL_law 330 = .ok (.iconst 1, 1) := by decide +kernel
theorem dL_law_331 : decode cL_law 331 = .ok (.iadd, 1) := by decide +kernel
theorem dL_law_332 : decode cL_law 332 = .ok (.iaload, 1) := by decide +kernel
theorem dL_law_333 : decode cL_law 333 = .ok (.aload_n 0, 1) := by decide +kernel
theorem dL_law_334 : decode cL_law 334 = .ok (.iload_n 3, 1) := by decide +kernel
theorem dL_law_335 : decode cL_law 335 = .ok (.iconst 2, 1) := by decide +kernel
theorem dL_law_336 : decode cL_law 336 = .ok (.iadd, 1) := by decide +kernel
theorem dL_law_337 : decode cL_law 337 = .ok (.iaload, 1) := by decide +kernel
theorem dL_law_338 : decode cL_law 338 = .ok (.invokevirtual 47, 3) := by decide +kernel
theorem dL_law_341 : decode cL_law 341 = .ok (.if_icmp .eq 470, 3) := by decide +kernel
theorem dL_law_344 : decode cL_law 344 = .ok (.iconst 0, 1) := by decide +kernel
theorem dL_law_345 : decode cL_law 345 = .ok (.ireturn, 1) := by decide +kernel
theorem dL_law_346 : decode cL_law 346 = .ok (.aload_n 1, 1) := by decide +kernel
theorem dL_law_347 : decode cL_law 347 = .ok (.aload_n 0, 1) := by decide +kernel
theorem dL_law_348 : decode cL_law 348 = .ok (.iload_n 3, 1) := by decide +kernel
theorem dL_law_349 : decode cL_law 349 = .ok (.iconst 1, 1) := by decide +kernel
theorem dL_law_350 : decode cL_law 350 = .ok (.iadd, 1) := by decide +kernel
theorem dL_law_351 : decode cL_law 351 = .ok (.iaload, 1) := by decide +kernel
theorem dL_law_352 : decode cL_law 352 = .ok (.invokevirtual 48, 3) := by decide +kernel
theorem dL_law_355 : decode cL_law 355 = .ok (.aload_n 2, 1) := by decide +kernel
theorem dL_law_356 : decode cL_law 356 = .ok (.aload_n 0, 1) := by decide +kernel
theorem dL_law_357 : decode cL_law 357 = .ok (.iload_n 3, 1) := by decide +kernel
theorem dL_law_358 : decode cL_law 358 = .ok (.iconst 1, 1) := by decide +kernel
theorem dL_law_359 : decode cL_law 359 = .ok (.iadd, 1) := by decide +kernel
theorem dL_law_360 : decode cL_law 360 = .ok (.iaload, 1) := by decide +kernel
theorem dL_law_361 : decode cL_law 361 = .ok (.invokevirtual 51, 3) := by decide +kernel
theorem dL_law_364 : decode cL_law 364 = .ok (.if_icmp .eq 447, 3) := by decide +kernel
theorem dL_law_367 : decode cL_law 367 = .ok (.iconst 0, 1) := by decide +kernel
theorem dL_law_368 : decode cL_law 368 = .ok (.ireturn, 1) := by decide +kernel
theorem dL_law_369 : decode cL_law 369 = .ok (.aload_n 1, 1) := by decide +kernel
theorem dL_law_370 : decode cL_law 370 = .ok (.aload_n 0, 1) := by decide +kernel
theorem dL_law_371 : decode cL_law 371 = .ok (.iload_n 3, 1) := by decide +kernel
theorem dL_law_372 : decode cL_law 372 = .ok (.iconst 1, 1) := by decide +kernel
theorem dL_law_373 : decode cL_law 373 = .ok (.iadd, 1) := by decide +kernel
theorem dL_law_374 : decode cL_law 374 = .ok (.iaload, 1) := by decide +kernel
theorem dL_law_375 : decode cL_law 375 = .ok (.invokevirtual 52, 3) := by decide +kernel
theorem dL_law_378 : decode cL_law 378 = .ok (.aload_n 2, 1) := by decide +kernel
theorem dL_law_379 : decode cL_law 379 = .ok (.aload_n 0, 1) := by decide +kernel
theorem dL_law_380 : decode cL_law 380 = .ok (.iload_n 3, 1) := by decide +kernel
theorem dL_law_381 : decode cL_law 381 = .ok (.iconst 1, 1) := by decide +kernel
theorem dL_law_382 : decode cL_law 382 = .ok (.iadd, 1) := by decide +kernel
theorem dL_law_383 : decode cL_law 383 = .ok (.iaload, 1) := by decide +kernel
theorem dL_law_384 : decode cL_law 384 = .ok (.invokevirtual 55, 3) := by decide +kernel
theorem dL_law_387 : decode cL_law 387 = .ok (.if_icmp .eq 424, 3) := by decide +kernel
theorem dL_law_390 : decode cL_law 390 = .ok (.iconst 0, 1) := by decide +kernel
theorem dL_law_391 : decode cL_law 391 = .ok (.ireturn, 1) := by decide +kernel
theorem dL_law_392 : decode cL_law 392 = .ok (.aload_n 1, 1) := by decide +kernel
theorem dL_law_393 : decode cL_law 393 = .ok (.aload_n 0, 1) := by decide +kernel
theorem dL_law_394 : decode cL_law 394 = .ok (.iload_n 3, 1) := by decide +kernel
theorem dL_law_395 : decode cL_law 395 = .ok (.iconst 1, 1) := by decide +kernel
theorem dL_law_396 : decode cL_law 396 = .ok (.iadd, 1) := by decide +kernel
theorem dL_law_397 : decode cL_law 397 = .ok (.iaload, 1) := by decide +kernel
theorem dL_law_398 : decode cL_law 398 = .ok (.aload_n 0, 1) := by decide +kernel
theorem dL_law_399 : decode cL_law 399 = .ok (.iload_n 3, 1) := by decide +kernel
theorem dL_law_400 : decode cL_law 400 = .ok (.iconst 2, 1) := by decide +kernel
theorem dL_law_401 : decode cL_law 401 = .ok (.iadd, 1) := by decide +kernel
theorem dL_law_402 : decode cL_law 402 = .ok (.iaload, 1) := by decide +kernel
theorem dL_law_403 : decode cL_law 403 = .ok (.invokevirtual 56, 3) := by decide +kernel
theorem dL_law_406 : decode cL_law 406 = .ok (.aload_n 2, 1) := by decide +kernel
theorem dL_law_407 : decode cL_law 407 = .ok (.aload_n 0, 1) := by decide +kernel
theorem dL_law_408 : decode cL_law 408 = .ok (.iload_n 3, 1) := by decide +kernel
theorem dL_law_409 : decode cL_law 409 = .ok (.iconst 1, 1) := by decide +kernel
theorem dL_law_410 : decode cL_law 410 = .ok (.iadd, 1) := by decide +kernel
theorem dL_law_411 : decode cL_law 411 = .ok (.iaload, 1) := by decide +kernel
theorem dL_law_412 : decode cL_law 412 = .ok (.aload_n 0, 1) := by decide +kernel
theorem dL_law_413 : decode cL_law 413 = .ok (.iload_n 3, 1) := by decide +kernel
theorem dL_law_414 : decode cL_law 414 = .ok (.iconst 2, 1) := by decide +kernel
theorem dL_law_415 : decode cL_law 415 = .ok (.iadd, 1) := by decide +kernel
theorem dL_law_416 : decode cL_law 416 = .ok (.iaload, 1) := by decide +kernel
theorem dL_law_417 : decode cL_law 417 = .ok (.invokevirtual 59, 3) := by decide +kernel
theorem dL_law_420 : decode cL_law 420 = .ok (.if_icmp .eq 391, 3) := by decide +kernel
theorem dL_law_423 : decode cL_law 423 = .ok (.iconst 0, 1) := by decide +kernel
theorem dL_law_424 : decode cL_law 424 = .ok (.ireturn, 1) := by decide +kernel
theorem dL_law_425 : decode cL_law 425 = .ok (.aload_n 1, 1) := by decide +kernel
theorem dL_law_426 : decode cL_law 426 = .ok (.aload_n 0, 1) := by decide +kernel
theorem dL_law_427 : decode cL_law 427 = .ok (.iload_n 3, 1) := by decide +kernel
theorem dL_law_428 : decode cL_law 428 = .ok (.iconst 1, 1) := by decide +kernel
theorem dL_law_429 : decode cL_law 429 = .ok (.iadd, 1) := by decide +kernel
theorem dL_law_430 : decode cL_law 430 = .ok (.iaload, 1) := by decide +kernel
theorem dL_law_431 : decode cL_law 431 = .ok (.invokevirtual 60, 3) := by decide +kernel
theorem dL_law_434 : decode cL_law 434 = .ok (.aload_n 2, 1) := by decide +kernel
theorem dL_law_435 : decode cL_law 435 = .ok (.aload_n 0, 1) := by decide +kernel
theorem dL_law_436 : decode cL_law 436 = .ok (.iload_n 3, 1) := by decide +kernel
theorem dL_law_437 : decode cL_law 437 = .ok (.iconst 1, 1) := by decide +kernel
theorem dL_law_438 : decode cL_law 438 = .ok (.iadd, 1) := by decide +kernel
theorem dL_law_439 : decode cL_law 439 = .ok (.iaload, 1) := by decide +kernel
theorem dL_law_440 : decode cL_law 440 = .ok (.invokevirtual 63, 3) := by decide +kernel
theorem dL_law_443 : decode cL_law 443 = .ok (.if_icmp .eq 368, 3) := by decide +kernel
theorem dL_law_446 : decode cL_law 446 = .ok (.iconst 0, 1) := by decide +kernel
theorem dL_law_447 : decode cL_law 447 = .ok (.ireturn, 1) := by decide +kernel
theorem dL_law_448 : decode cL_law 448 = .ok (.aload_n 1, 1) := by decide +kernel
theorem dL_law_449 : decode cL_law 449 = .ok (.invokevirtual 64, 3) := by decide +kernel
theorem dL_law_452 : decode cL_law 452 = .ok (.aload_n 2, 1) := by decide +kernel
theorem dL_law_453 : decode cL_law 453 = .ok (.invokevirtual 67, 3) := by decide +kernel
theorem dL_law_456 : decode cL_law 456 = .ok (.if_icmp .eq 355, 3) := by decide +kernel
theorem dL_law_459 : decode cL_law 459 = .ok (.iconst 0, 1) := by decide +kernel
theorem dL_law_460 : decode cL_law 460 = .ok (.ireturn, 1) := by decide +kernel
theorem dL_law_461 : decode cL_law 461 = .ok (.aload_n 1, 1) := by decide +kernel
theorem dL_law_462 : decode cL_law 462 = .ok (.invokevirtual 68, 3) := by decide +kernel
theorem dL_law_465 : decode cL_law 465 = .ok (.aload_n 2, 1) := by decide +kernel
theorem dL_law_466 : decode cL_law 466 = .ok (.invokevirtual 71, 3) := by decide +kernel
theorem dL_law_469 : decode cL_law 469 = .ok (.if_icmp .eq 342, 3) := by decide +kernel
theorem dL_law_472 : decode cL_law 472 = .ok (.iconst 0, 1) := by decide +kernel
theorem dL_law_473 : decode cL_law 473 = .ok (.ireturn, 1) := by decide +kernel
theorem dL_law_474 : decode cL_law 474 = .ok (.aload_n 1, 1) := by decide +kernel
theorem dL_law_475 : decode cL_law 475 = .ok (.aload_n 0, 1) := by decide +kernel
theorem dL_law_476 : decode cL_law 476 = .ok (.iload_n 3, 1) := by decide +kernel
theorem dL_law_477 : decode cL_law 477 = .ok (.iconst 1, 1) := by decide +kernel
theorem dL_law_478 : decode cL_law 478 = .ok (.iadd, 1) := by decide +kernel
theorem dL_law_479 : decode cL_law 479 = .ok (.iaload, 1) := by decide +kernel
theorem dL_law_480 : decode cL_law 480 = .ok (.aload_n 0, 1) := by decide +kernel
theorem dL_law_481 : decode cL_law 481 = .ok (.iload_n 3, 1) := by decide +kernel
theorem dL_law_482 : decode cL_law 482 = .ok (.iconst 2, 1) := by decide +kernel
theorem dL_law_483 : decode cL_law 483 = .ok (.iadd, 1) := by decide +kernel
theorem dL_law_484 : decode cL_law 484 = .ok (.iaload, 1) := by decide +kernel
theorem dL_law_485 : decode cL_law 485 = .ok (.invokevirtual 72, 3) := by decide +kernel
theorem dL_law_488 : decode cL_law 488 = .ok (.aload_n 2, 1) := by decide +kernel
theorem dL_law_489 : decode cL_law 489 = .ok (.aload_n 0, 1) := by decide +kernel
theorem dL_law_490 : decode cL_law 490 = .ok (.iload_n 3, 1) := by decide +kernel
theorem dL_law_491 : decode cL_law 491 = .ok (.iconst 1, 1) := by decide +kernel
theorem dL_law_492 : decode cL_law 492 = .ok (.iadd, 1) := by decide +kernel
theorem dL_law_493 : decode cL_law 493 = .ok (.iaload, 1) := by decide +kernel
theorem dL_law_494 : decode cL_law 494 = .ok (.aload_n 0, 1) := by decide +kernel
theorem dL_law_495 : decode cL_law 495 = .ok (.iload_n 3, 1) := by decide +kernel
theorem dL_law_496 : decode cL_law 496 = .ok (.iconst 2, 1) := by decide +kernel
theorem dL_law_497 : decode cL_law 497 = .ok (.iadd, 1) := by decide +kernel
theorem dL_law_498 : decode cL_law 498 = .ok (.iaload, 1) := by decide +kernel
theorem dL_law_499 : decode cL_law 499 = .ok (.invokevirtual 75, 3) := by decide +kernel
theorem dL_law_502 : decode cL_law 502 = .ok (.if_icmp .eq 309, 3) := by decide +kernel
theorem dL_law_505 : decode cL_law 505 = .ok (.iconst 0, 1) := by decide +kernel
theorem dL_law_506 : decode cL_law 506 = .ok (.ireturn, 1) := by decide +kernel
theorem dL_law_507 : decode cL_law 507 = .ok (.aload_n 1, 1) := by decide +kernel
theorem dL_law_508 : decode cL_law 508 = .ok (.invokevirtual 76, 3) := by decide +kernel
theorem dL_law_511 : decode cL_law 511 = .ok (.aload_n 2, 1) := by decide +kernel
theorem dL_law_512 : decode cL_law 512 = .ok (.invokevirtual 79, 3) := by decide +kernel
theorem dL_law_515 : decode cL_law 515 = .ok (.if_icmp .eq 296, 3) := by decide +kernel
theorem dL_law_518 : decode cL_law 518 = .ok (.iconst 0, 1) := by decide +kernel
theorem dL_law_519 : decode cL_law 519 = .ok (.ireturn, 1) := by decide +kernel
theorem dL_law_520 : decode cL_law 520 = .ok (.aload_n 1, 1) := by decide +kernel
theorem dL_law_521 : decode cL_law 521 = .ok (.aload_n 0, 1) := by decide +kernel
theorem dL_law_522 : decode cL_law 522 = .ok (.iload_n 3, 1) := by decide +kernel
theorem dL_law_523 : decode cL_law 523 = .ok (.iconst 1, 1) := by decide +kernel
theorem dL_law_524 : decode cL_law 524 = .ok (.iadd, 1) := by decide +kernel
theorem dL_law_525 : decode cL_law 525 = .ok (.iaload, 1) := by decide +kernel
theorem dL_law_526 : decode cL_law 526 = .ok (.aload_n 0, 1) := by decide +kernel
theorem dL_law_527 : decode cL_law 527 = .ok (.iload_n 3, 1) := by decide +kernel
theorem dL_law_528 : decode cL_law 528 = .ok (.iconst 2, 1) := by decide +kernel
theorem dL_law_529 : decode cL_law 529 = .ok (.iadd, 1) := by decide +kernel
theorem dL_law_530 : decode cL_law 530 = .ok (.iaload, 1) := by decide +kernel
theorem dL_law_531 : decode cL_law 531 = .ok (.invokevirtual 80, 3) := by decide +kernel
theorem dL_law_534 : decode cL_law 534 = .ok (.aload_n 2, 1) := by decide +kernel
theorem dL_law_535 : decode cL_law 535 = .ok (.aload_n 0, 1) := by decide +kernel
theorem dL_law_536 : decode cL_law 536 = .ok (.iload_n 3, 1) := by decide +kernel
theorem dL_law_537 : decode cL_law 537 = .ok (.iconst 1, 1) := by decide +kernel
theorem dL_law_538 : decode cL_law 538 = .ok (.iadd, 1) := by decide +kernel
theorem dL_law_539 : decode cL_law 539 = .ok (.iaload, 1) := by decide +kernel
theorem dL_law_540 : decode cL_law 540 = .ok (.aload_n 0, 1) := by decide +kernel
theorem dL_law_541 : decode cL_law 541 = .ok (.iload_n 3, 1) := by decide +kernel
theorem dL_law_542 : decode cL_law 542 = .ok (.iconst 2, 1) := by decide +kernel
theorem dL_law_543 : decode cL_law 543 = .ok (.iadd, 1) := by decide +kernel
theorem dL_law_544 : decode cL_law 544 = .ok (.iaload, 1) := by decide +kernel
theorem dL_law_545 : decode cL_law 545 = .ok (.invokevirtual 83, 3) := by decide +kernel
theorem dL_law_548 : decode cL_law 548 = .ok (.if_icmp .eq 263, 3) := by decide +kernel
theorem dL_law_551 : decode cL_law 551 = .ok (.iconst 0, 1) := by decide +kernel
theorem dL_law_552 : decode cL_law 552 = .ok (.ireturn, 1) := by decide +kernel
theorem dL_law_553 : decode cL_law 553 = .ok (.aload_n 1, 1) := by decide +kernel
theorem dL_law_554 : decode cL_law 554 = .ok (.aload_n 0, 1) := by decide +kernel
theorem dL_law_555 : decode cL_law 555 = .ok (.iload_n 3, 1) := by decide +kernel
theorem dL_law_556 : decode cL_law 556 = .ok (.iconst 1, 1) := by decide +kernel
theorem dL_law_557 : decode cL_law 557 = .ok (.iadd, 1) := by decide +kernel
theorem dL_law_558 : decode cL_law 558 = .ok (.iaload, 1) := by decide +kernel
theorem dL_law_559 : decode cL_law 559 = .ok (.invokevirtual 84, 3) := by decide +kernel
theorem dL_law_562 : decode cL_law 562 = .ok (.aload_n 2, 1) := by decide +kernel
theorem dL_law_563 : decode cL_law 563 = .ok (.aload_n 0, 1) := by decide +kernel
theorem dL_law_564 : decode cL_law 564 = .ok (.iload_n 3, 1) := by decide +kernel
theorem dL_law_565 : decode cL_law 565 = .ok (.iconst 1, 1) := by decide +kernel
theorem dL_law_566 : decode cL_law 566 = .ok (.iadd, 1) := by decide +kernel
theorem dL_law_567 : decode cL_law 567 = .ok (.iaload, 1) := by decide +kernel
theorem dL_law_568 : decode cL_law 568 = .ok (.invokevirtual 87, 3) := by decide +kernel
theorem dL_law_571 : decode cL_law 571 = .ok (.if_icmp .eq 240, 3) := by decide +kernel
theorem dL_law_574 : decode cL_law 574 = .ok (.iconst 0, 1) := by decide +kernel
theorem dL_law_575 : decode cL_law 575 = .ok (.ireturn, 1) := by decide +kernel
theorem dL_law_576 : decode cL_law 576 = .ok (.aload_n 1, 1) := by decide +kernel
theorem dL_law_577 : decode cL_law 577 = .ok (.aload_n 0, 1) := by decide +kernel
theorem dL_law_578 : decode cL_law 578 = .ok (.iload_n 3, 1) := by decide +kernel
theorem dL_law_579 : decode cL_law 579 = .ok (.iconst 1, 1) := by decide +kernel
theorem dL_law_580 : decode cL_law 580 = .ok (.iadd, 1) := by decide +kernel
theorem dL_law_581 : decode cL_law 581 = .ok (.iaload, 1) := by decide +kernel
theorem dL_law_582 : decode cL_law 582 = .ok (.aload_n 0, 1) := by decide +kernel
theorem dL_law_583 : decode cL_law 583 = .ok (.iload_n 3, 1) := by decide +kernel
theorem dL_law_584 : decode cL_law 584 = .ok (.iconst 2, 1) := by decide +kernel
theorem dL_law_585 : decode cL_law 585 = .ok (.iadd, 1) := by decide +kernel
theorem dL_law_586 : decode cL_law 586 = .ok (.iaload, 1) := by decide +kernel
theorem dL_law_587 : decode cL_law 587 = .ok (.aload_n 0, 1) := by decide +kernel
theorem dL_law_588 : decode cL_law 588 = .ok (.iload_n 3, 1) := by decide +kernel
theorem dL_law_589 : decode cL_law 589 = .ok (.iconst 3, 1) := by decide +kernel
theorem dL_law_590 : decode cL_law 590 = .ok (.iadd, 1) := by decide +kernel
theorem dL_law_591 : decode cL_law 591 = .ok (.iaload, 1) := by decide +kernel
theorem dL_law_592 : decode cL_law 592 = .ok (.invokevirtual 88, 3) := by decide +kernel
theorem dL_law_595 : decode cL_law 595 = .ok (.aload_n 2, 1) := by decide +kernel
theorem dL_law_596 : decode cL_law 596 = .ok (.aload_n 0, 1) := by decide +kernel
theorem dL_law_597 : decode cL_law 597 = .ok (.iload_n 3, 1) := by decide +kernel
theorem dL_law_598 : decode cL_law 598 = .ok (.iconst 1, 1) := by decide +kernel
theorem dL_law_599 : decode cL_law 599 = .ok (.iadd, 1) := by decide +kernel
theorem dL_law_600 : decode cL_law 600 = .ok (.iaload, 1) := by decide +kernel
theorem dL_law_601 : decode cL_law 601 = .ok (.aload_n 0, 1) := by decide +kernel
theorem dL_law_602 : decode cL_law 602 = .ok (.iload_n 3, 1) := by decide +kernel
theorem dL_law_603 : decode cL_law 603 = .ok (.iconst 2, 1) := by decide +kernel
theorem dL_law_604 : decode cL_law 604 = .ok (.iadd, 1) := by decide +kernel
theorem dL_law_605 : decode cL_law 605 = .ok (.iaload, 1) := by decide +kernel
theorem dL_law_606 : decode cL_law 606 = .ok (.aload_n 0, 1) := by decide +kernel
theorem dL_law_607 : decode cL_law 607 = .ok (.iload_n 3, 1) := by decide +kernel
theorem dL_law_608 : decode cL_law 608 = .ok (.iconst 3, 1) := by decide +kernel
theorem dL_law_609 : decode cL_law 609 = .ok (.iadd, 1) := by decide +kernel
theorem dL_law_610 : decode cL_law 610 = .ok (.iaload, 1) := by decide +kernel
theorem dL_law_611 : decode cL_law 611 = .ok (.invokevirtual 92, 3) := by decide +kernel
theorem dL_law_614 : decode cL_law 614 = .ok (.if_icmp .eq 197, 3) := by decide +kernel
theorem dL_law_617 : decode cL_law 617 = .ok (.iconst 0, 1) := by decide +kernel
theorem dL_law_618 : decode cL_law 618 = .ok (.ireturn, 1) := by decide +kernel
theorem dL_law_619 : decode cL_law 619 = .ok (.aload_n 1, 1) := by decide +kernel
theorem dL_law_620 : decode cL_law 620 = .ok (.aload_n 0, 1) := by decide +kernel
theorem dL_law_621 : decode cL_law 621 = .ok (.iload_n 3, 1) := by decide +kernel
theorem dL_law_622 : decode cL_law 622 = .ok (.iconst 1, 1) := by decide +kernel
theorem dL_law_623 : decode cL_law 623 = .ok (.iadd, 1) := by decide +kernel
theorem dL_law_624 : decode cL_law 624 = .ok (.iaload, 1) := by decide +kernel
theorem dL_law_625 : decode cL_law 625 = .ok (.aload_n 0, 1) := by decide +kernel
theorem dL_law_626 : decode cL_law 626 = .ok (.iload_n 3, 1) := by decide +kernel
theorem dL_law_627 : decode cL_law 627 = .ok (.iconst 2, 1) := by decide +kernel
theorem dL_law_628 : decode cL_law 628 = .ok (.iadd, 1) := by decide +kernel
theorem dL_law_629 : decode cL_law 629 = .ok (.iaload, 1) := by decide +kernel
theorem dL_law_630 : decode cL_law 630 = .ok (.aload_n 0, 1) := by decide +kernel
theorem dL_law_631 : decode cL_law 631 = .ok (.iload_n 3, 1) := by decide +kernel
theorem dL_law_632 : decode cL_law 632 = .ok (.iconst 3, 1) := by decide +kernel
theorem dL_law_633 : decode cL_law 633 = .ok (.iadd, 1) := by decide +kernel
theorem dL_law_634 : decode cL_law 634 = .ok (.iaload, 1) := by decide +kernel
theorem dL_law_635 : decode cL_law 635 = .ok (.invokevirtual 93, 3) := by decide +kernel
theorem dL_law_638 : decode cL_law 638 = .ok (.aload_n 2, 1) := by decide +kernel
theorem dL_law_639 : decode cL_law 639 = .ok (.aload_n 0, 1) := by decide +kernel
theorem dL_law_640 : decode cL_law 640 = .ok (.iload_n 3, 1) := by decide +kernel
theorem dL_law_641 : decode cL_law 641 = .ok (.iconst 1, 1) := by decide +kernel
theorem dL_law_642 : decode cL_law 642 = .ok (.iadd, 1) := by decide +kernel
theorem dL_law_643 : decode cL_law 643 = .ok (.iaload, 1) := by decide +kernel
theorem dL_law_644 : decode cL_law 644 = .ok (.aload_n 0, 1) := by decide +kernel
theorem dL_law_645 : decode cL_law 645 = .ok (.iload_n 3, 1) := by decide +kernel
theorem dL_law_646 : decode cL_law 646 = .ok (.iconst 2, 1) := by decide +kernel
theorem dL_law_647 : decode cL_law 647 = .ok (.iadd, 1) := by decide +kernel
theorem dL_law_648 : decode cL_law 648 = .ok (.iaload, 1) := by decide +kernel
theorem dL_law_649 : decode cL_law 649 = .ok (.aload_n 0, 1) := by decide +kernel
theorem dL_law_650 : decode cL_law 650 = .ok (.iload_n 3, 1) := by decide +kernel
theorem dL_law_651 : decode cL_law 651 = .ok (.iconst 3, 1) := by decide +kernel
theorem dL_law_652 : decode cL_law 652 = .ok (.iadd, 1) := by decide +kernel
theorem dL_law_653 : decode cL_law 653 = .ok (.iaload, 1) := by decide +kernel
theorem dL_law_654 : decode cL_law 654 = .ok (.invokevirtual 96, 3) := by decide +kernel
theorem dL_law_657 : decode cL_law 657 = .ok (.if_icmp .eq 154, 3) := by decide +kernel
theorem dL_law_660 : decode cL_law 660 = .ok (.iconst 0, 1) := by decide +kernel
theorem dL_law_661 : decode cL_law 661 = .ok (.ireturn, 1) := by decide +kernel
theorem dL_law_662 : decode cL_law 662 = .ok (.aload_n 1, 1) := by decide +kernel
theorem dL_law_663 : decode cL_law 663 = .ok (.aload_n 0, 1) := by decide +kernel
theorem dL_law_664 : decode cL_law 664 = .ok (.iload_n 3, 1) := by decide +kernel
theorem dL_law_665 : decode cL_law 665 = .ok (.iconst 1, 1) := by decide +kernel
theorem dL_law_666 : decode cL_law 666 = .ok (.iadd, 1) := by decide +kernel
theorem dL_law_667 : decode cL_law 667 = .ok (.iaload, 1) := by decide +kernel
theorem dL_law_668 : decode cL_law 668 = .ok (.aload_n 0, 1) := by decide +kernel
theorem dL_law_669 : decode cL_law 669 = .ok (.iload_n 3, 1) := by decide +kernel
theorem dL_law_670 : decode cL_law 670 = .ok (.iconst 2, 1) := by decide +kernel
theorem dL_law_671 : decode cL_law 671 = .ok (.iadd, 1) := by decide +kernel
theorem dL_law_672 : decode cL_law 672 = .ok (.iaload, 1) := by decide +kernel
theorem dL_law_673 : decode cL_law 673 = .ok (.invokevirtual 97, 3) := by decide +kernel
theorem dL_law_676 : decode cL_law 676 = .ok (.aload_n 2, 1) := by decide +kernel
theorem dL_law_677 : decode cL_law 677 = .ok (.aload_n 0, 1) := by decide +kernel
theorem dL_law_678 : decode cL_law 678 = .ok (.iload_n 3, 1) := by decide +kernel
theorem dL_law_679 : decode cL_law 679 = .ok (.iconst 1, 1) := by decide +kernel
theorem dL_law_680 : decode cL_law 680 = .ok (.iadd, 1) := by decide +kernel
theorem dL_law_681 : decode cL_law 681 = .ok (.iaload, 1) := by decide +kernel
theorem dL_law_682 : decode cL_law 682 = .ok (.aload_n 0, 1) := by decide +kernel
theorem dL_law_683 : decode cL_law 683 = .ok (.iload_n 3, 1) := by decide +kernel
theorem dL_law_684 : decode cL_law 684 = .ok (.iconst 2, 1) := by decide +kernel
theorem dL_law_685 : decode cL_law 685 = .ok (.iadd, 1) := by decide +kernel
theorem dL_law_686 : decode cL_law 686 = .ok (.iaload, 1) := by decide +kernel
theorem dL_law_687 : decode cL_law 687 = .ok (.invokevirtual 100, 3) := by decide +kernel
theorem dL_law_690 : decode cL_law 690 = .ok (.if_icmp .eq 121, 3) := by decide +kernel
theorem dL_law_693 : decode cL_law 693 = .ok (.iconst 0, 1) := by decide +kernel
theorem dL_law_694 : decode cL_law 694 = .ok (.ireturn, 1) := by decide +kernel
theorem dL_law_695 : decode cL_law 695 = .ok (.aload_n 1, 1) := by decide +kernel
theorem dL_law_696 : decode cL_law 696 = .ok (.aload_n 0, 1) := by decide +kernel
theorem dL_law_697 : decode cL_law 697 = .ok (.iload_n 3, 1) := by decide +kernel
theorem dL_law_698 : decode cL_law 698 = .ok (.iconst 1, 1) := by decide +kernel
theorem dL_law_699 : decode cL_law 699 = .ok (.iadd, 1) := by decide +kernel
theorem dL_law_700 : decode cL_law 700 = .ok (.iaload, 1) := by decide +kernel
theorem dL_law_701 : decode cL_law 701 = .ok (.aload_n 0, 1) := by decide +kernel
theorem dL_law_702 : decode cL_law 702 = .ok (.iload_n 3, 1) := by decide +kernel
theorem dL_law_703 : decode cL_law 703 = .ok (.iconst 2, 1) := by decide +kernel
theorem dL_law_704 : decode cL_law 704 = .ok (.iadd, 1) := by decide +kernel
theorem dL_law_705 : decode cL_law 705 = .ok (.iaload, 1) := by decide +kernel
theorem dL_law_706 : decode cL_law 706 = .ok (.invokevirtual 101, 3) := by decide +kernel
theorem dL_law_709 : decode cL_law 709 = .ok (.aload_n 2, 1) := by decide +kernel
theorem dL_law_710 : decode cL_law 710 = .ok (.aload_n 0, 1) := by decide +kernel
theorem dL_law_711 : decode cL_law 711 = .ok (.iload_n 3, 1) := by decide +kernel
theorem dL_law_712 : decode cL_law 712 = .ok (.iconst 1, 1) := by decide +kernel
theorem dL_law_713 : decode cL_law 713 = .ok (.iadd, 1) := by decide +kernel
theorem dL_law_714 : decode cL_law 714 = .ok (.iaload, 1) := by decide +kernel
theorem dL_law_715 : decode cL_law 715 = .ok (.aload_n 0, 1) := by decide +kernel
theorem dL_law_716 : decode cL_law 716 = .ok (.iload_n 3, 1) := by decide +kernel
theorem dL_law_717 : decode cL_law 717 = .ok (.iconst 2, 1) := by decide +kernel
theorem dL_law_718 : decode cL_law 718 = .ok (.iadd, 1) := by decide +kernel
theorem dL_law_719 : decode cL_law 719 = .ok (.iaload, 1) := by decide +kernel
theorem dL_law_720 : decode cL_law 720 = .ok (.invokevirtual 104, 3) := by decide +kernel
theorem dL_law_723 : decode cL_law 723 = .ok (.if_icmp .eq 88, 3) := by decide +kernel
theorem dL_law_726 : decode cL_law 726 = .ok (.iconst 0, 1) := by decide +kernel
theorem dL_law_727 : decode cL_law 727 = .ok (.ireturn, 1) := by decide +kernel
theorem dL_law_728 : decode cL_law 728 = .ok (.aload_n 1, 1) := by decide +kernel
theorem dL_law_729 : decode cL_law 729 = .ok (.aload_n 0, 1) := by decide +kernel
theorem dL_law_730 : decode cL_law 730 = .ok (.iload_n 3, 1) := by decide +kernel
theorem dL_law_731 : decode cL_law 731 = .ok (.iconst 1, 1) := by decide +kernel
theorem dL_law_732 : decode cL_law 732 = .ok (.iadd, 1) := by decide +kernel
theorem dL_law_733 : decode cL_law 733 = .ok (.iaload, 1) := by decide +kernel
theorem dL_law_734 : decode cL_law 734 = .ok (.invokevirtual 105, 3) := by decide +kernel
theorem dL_law_737 : decode cL_law 737 = .ok (.aload_n 2, 1) := by decide +kernel
theorem dL_law_738 : decode cL_law 738 = .ok (.aload_n 0, 1) := by decide +kernel
theorem dL_law_739 : decode cL_law 739 = .ok (.iload_n 3, 1) := by decide +kernel
theorem dL_law_740 : decode cL_law 740 = .ok (.iconst 1, 1) := by decide +kernel
theorem dL_law_741 : decode cL_law 741 = .ok (.iadd, 1) := by decide +kernel
theorem dL_law_742 : decode cL_law 742 = .ok (.iaload, 1) := by decide +kernel
theorem dL_law_743 : decode cL_law 743 = .ok (.invokevirtual 108, 3) := by decide +kernel
theorem dL_law_746 : decode cL_law 746 = .ok (.if_icmp .eq 65, 3) := by decide +kernel
theorem dL_law_749 : decode cL_law 749 = .ok (.iconst 0, 1) := by decide +kernel
theorem dL_law_750 : decode cL_law 750 = .ok (.ireturn, 1) := by decide +kernel
theorem dL_law_751 : decode cL_law 751 = .ok (.aload_n 1, 1) := by decide +kernel
theorem dL_law_752 : decode cL_law 752 = .ok (.aload_n 0, 1) := by decide +kernel
theorem dL_law_753 : decode cL_law 753 = .ok (.iload_n 3, 1) := by decide +kernel
theorem dL_law_754 : decode cL_law 754 = .ok (.iconst 1, 1) := by decide +kernel
theorem dL_law_755 : decode cL_law 755 = .ok (.iadd, 1) := by decide +kernel
theorem dL_law_756 : decode cL_law 756 = .ok (.iaload, 1) := by decide +kernel
theorem dL_law_757 : decode cL_law 757 = .ok (.invokevirtual 109, 3) := by decide +kernel
theorem dL_law_760 : decode cL_law 760 = .ok (.aload_n 2, 1) := by decide +kernel
theorem dL_law_761 : decode cL_law 761 = .ok (.aload_n 0, 1) := by decide +kernel
theorem dL_law_762 : decode cL_law 762 = .ok (.iload_n 3, 1) := by decide +kernel
theorem dL_law_763 : decode cL_law 763 = .ok (.iconst 1, 1) := by decide +kernel
theorem dL_law_764 : decode cL_law 764 = .ok (.iadd, 1) := by decide +kernel
theorem dL_law_765 : decode cL_law 765 = .ok (.iaload, 1) := by decide +kernel
theorem dL_law_766 : decode cL_law 766 = .ok (.invokevirtual 112, 3) := by decide +kernel
theorem dL_law_769 : decode cL_law 769 = .ok (.if_icmp .eq 42, 3) := by decide +kernel
theorem dL_law_772 : decode cL_law 772 = .ok (.iconst 0, 1) := by decide +kernel
theorem dL_law_773 : decode cL_law 773 = .ok (.ireturn, 1) := by decide +kernel
theorem dL_law_774 : decode cL_law 774 = .ok (.aload_n 1, 1) := by decide +kernel
theorem dL_law_775 : decode cL_law 775 = .ok (.aload_n 0, 1) := by decide +kernel
theorem dL_law_776 : decode cL_law 776 = .ok (.iload_n 3, 1) := by decide +kernel
theorem dL_law_777 : decode cL_law 777 = .ok (.iconst 1, 1) := by decide +kernel
theorem dL_law_778 : decode cL_law 778 = .ok (.iadd, 1) := by decide +kernel
theorem dL_law_779 : decode cL_law 779 = .ok (.iaload, 1) := by decide +kernel
theorem dL_law_780 : decode cL_law 780 = .ok (.invokevirtual 113, 3) := by decide +kernel
theorem dL_law_783 : decode cL_law 783 = .ok (.aload_n 2, 1) := by decide +kernel
theorem dL_law_784 : decode cL_law 784 = .ok (.aload_n 0, 1) := by decide +kernel
theorem dL_law_785 : decode cL_law 785 = .ok (.iload_n 3, 1) := by decide +kernel
theorem dL_law_786 : decode cL_law 786 = .ok (.iconst 1, 1) := by decide +kernel
theorem dL_law_787 : decode cL_law 787 = .ok (.iadd, 1) := by decide +kernel
theorem dL_law_788 : decode cL_law 788 = .ok (.iaload, 1) := by decide +kernel
theorem dL_law_789 : decode cL_law 789 = .ok (.invokevirtual 116, 3) := by decide +kernel
theorem dL_law_792 : decode cL_law 792 = .ok (.if_icmp .eq 19, 3) := by decide +kernel
theorem dL_law_795 : decode cL_law 795 = .ok (.iconst 0, 1) := by decide +kernel
theorem dL_law_796 : decode cL_law 796 = .ok (.ireturn, 1) := by decide +kernel
theorem dL_law_797 : decode cL_law 797 = .ok (.aload_n 1, 1) := by decide +kernel
theorem dL_law_798 : decode cL_law 798 = .ok (.invokevirtual 117, 3) := by decide +kernel
theorem dL_law_801 : decode cL_law 801 = .ok (.aload_n 2, 1) := by decide +kernel
theorem dL_law_802 : decode cL_law 802 = .ok (.invokevirtual 121, 3) := by decide +kernel
theorem dL_law_805 : decode cL_law 805 = .ok (.lcmp, 1) := by decide +kernel
theorem dL_law_806 : decode cL_law 806 = .ok (.ifCond .eq 5, 3) := by decide +kernel
theorem dL_law_809 : decode cL_law 809 = .ok (.iconst 0, 1) := by decide +kernel
theorem dL_law_810 : decode cL_law 810 = .ok (.ireturn, 1) := by decide +kernel
theorem dL_law_811 : decode cL_law 811 = .ok (.iinc 3 4, 3) := by decide +kernel
theorem dL_law_814 : decode cL_law 814 = .ok (.goto (-796), 3) := by decide +kernel
theorem dL_law_817 : decode cL_law 817 = .ok (.iconst 1, 1) := by decide +kernel
theorem dL_law_818 : decode cL_law 818 = .ok (.ireturn, 1) := by decide +kernel
def R_law : String := "WovenRoadsLaw"

def lw_P (b : Addr) (xs : List Int32) (args : Array Value) (s : State) : Prop := args = #[.ref b] ∧ s.IntsAt b xs ∧ xs.length ≤ 2048 ∧ (Jvm.Cond.and given_1 narrow_1).before args s = true
def lw_Q (_ : Array Value) (s : State) (o : Outcome) (t : State) : Prop := o = .returned (some (.int 1)) ∧ Framed s o t [] 600000 7302249
def lw_Z (below : List Frame) (a : Array Value) (s : State) : State → Prop := fun t => ∃ o, t.status = .running ∧ Ended t below o ∧ lw_Q a s o t
/-- the law's own end, with 1 on the stack, nothing written that was there before, its room as the claim has it -/
theorem lw_ret {p : Program} {l : Launch} {e : Env} {s : State} {m : MethodId} {below : List Frame} {meth : Method} {c : Code} {b : Nat} (hx : p.tables.exec = Jvm.exec) (hb : c.code = code) (hr : meth.sig.returnType = ret) (hlocks : meth.locks = false) {pc : Nat} {H : Heap} {ls : Array Slot} (hdg : decode code pc = .ok (.ireturn, 1)) : W p l e room_1 s m #[Value.ref b] below meth c H [] 600000 7302249 (lw_Z below #[Value.ref b] s) (F0 m pc ls [.int 1]) := by
  intro T hT X
  obtain ⟨fs, hret, hrun, hended, hW, hframe⟩ := X.leave (v := some (.int 1)) (hlocks := hlocks) (fun h => by rw [hr] at h; cases h)
  have hmeth' : T.vm.method? m = some meth := X.method'
  refine ⟨T.setFrames fs, ?_, .returned (some (.int 1)), hrun, hended, rfl, ⟨_, rfl⟩, hW, hframe⟩
  jvm_step X.here [X.here.top, hx, hb, hdg, hmeth', hr, ret, narrow_b1]
  (try refine ⟨rfl, ?_⟩); (try refine ⟨rfl, ?_⟩)
  first | (intro acts; rw [hret _ acts rfl rfl rfl]) | rw [hret _ _ rfl rfl rfl]
  exact Steps.refl _
/-- what holds at the law's entry: the machine, the code, the tables' words (any of lw_tbl by 'hts w (by decide +kernel)'), the script of L ints xs at the cell b, what the Statement gives of the start (any of its parts by flat_of_before) -/
def lw_At (p : Program) (s : State) (m : MethodId) (meth : Method) (c : Code) (b L : Nat) (xs : Nat → Int32) : Prop :=
  p.tables.exec = Jvm.exec ∧ c.code = code ∧ meth.sig.returnType = ret ∧ c.maxLocals = 4 ∧ s.vm.findClass R_law = some m.cls ∧ (∀ w ∈ lw_tbl, w.before #[Value.ref b] s = true) ∧ va_X b L xs s s.heap ∧ b < s.heap.size ∧ meth.locks = false ∧ (Jvm.Cond.and given_1 narrow_1).before #[Value.ref b] s = true
def Sim0 (Rl : eS → Prop) : Prop := (∀ g : eS, Rl g → ∀ (a0 : Int32), ∃ (v : Int32) (g1 g2 : eS), fX10_type 0 a0 (eE g) = some (v, eE g1) ∧ fX11_type 38 a0 (eE g1) = some (v, eE g2) ∧ Rl g2)
def Sim1 (Rl : eS → Prop) : Prop := (∀ g : eS, Rl g → ∃ (v : Int32) (g1 g2 : eS), fX10_clear 0  (eE g) = some (v, eE g1) ∧ fX11_clear 38  (eE g1) = some (v, eE g2) ∧ Rl g2)
def Sim2 (Rl : eS → Prop) : Prop := (∀ g : eS, Rl g → ∃ (v : Int32) (g1 g2 : eS), fX10_land 0  (eE g) = some (v, eE g1) ∧ fX11_land 38  (eE g1) = some (v, eE g2) ∧ Rl g2)
def Sim3 (Rl : eS → Prop) : Prop := (∀ g : eS, Rl g → ∀ (a0 : Int32), ∃ (v : Int32) (g1 g2 : eS), fX10_height 0 a0 (eE g) = some (v, eE g1) ∧ fX11_height 38 a0 (eE g1) = some (v, eE g2) ∧ Rl g2)
def Sim4 (Rl : eS → Prop) : Prop := (∀ g : eS, Rl g → ∀ (a0 : Int32), ∃ (v : Int32) (g1 g2 : eS), fX10_town 0 a0 (eE g) = some (v, eE g1) ∧ fX11_town 38 a0 (eE g1) = some (v, eE g2) ∧ Rl g2)
def Sim5 (Rl : eS → Prop) : Prop := (∀ g : eS, Rl g → ∀ (a0 a1 : Int32), ∃ (v : Int32) (g1 g2 : eS), fX10_bolt 0 a0 a1 (eE g) = some (v, eE g1) ∧ fX11_bolt 38 a0 a1 (eE g1) = some (v, eE g2) ∧ Rl g2)
def Sim6 (Rl : eS → Prop) : Prop := (∀ g : eS, Rl g → ∀ (a0 a1 : Int32), ∃ (v : Int32) (g1 g2 : eS), fX10_card 0 a0 a1 (eE g) = some (v, eE g1) ∧ fX11_card 38 a0 a1 (eE g1) = some (v, eE g2) ∧ Rl g2)
def Sim7 (Rl : eS → Prop) : Prop := (∀ g : eS, Rl g → ∀ (a0 a1 : Int32), ∃ (v : Int32) (g1 g2 : eS), fX10_road 0 a0 a1 (eE g) = some (v, eE g1) ∧ fX11_road 38 a0 a1 (eE g1) = some (v, eE g2) ∧ Rl g2)
def Sim8 (Rl : eS → Prop) : Prop := (∀ g : eS, Rl g → ∀ (a0 : Int32), ∃ (v : Int32) (g1 g2 : eS), fX10_now 0 a0 (eE g) = some (v, eE g1) ∧ fX11_now 38 a0 (eE g1) = some (v, eE g2) ∧ Rl g2)
def Sim9 (Rl : eS → Prop) : Prop := (∀ g : eS, Rl g → ∀ (a0 : Int32), ∃ (v : Int32) (g1 g2 : eS), fX10_begins 0 a0 (eE g) = some (v, eE g1) ∧ fX11_begins 38 a0 (eE g1) = some (v, eE g2) ∧ Rl g2)
def Sim10 (Rl : eS → Prop) : Prop := (∀ g : eS, Rl g → ∀ (a0 a1 : Int32), ∃ (v : Int32) (g1 g2 : eS), fX10_weaves 0 a0 a1 (eE g) = some (v, eE g1) ∧ fX11_weaves 38 a0 a1 (eE g1) = some (v, eE g2) ∧ Rl g2)
def Sim11 (Rl : eS → Prop) : Prop := (∀ g : eS, Rl g → ∀ (a0 : Int32), ∃ (v : Int32) (g1 g2 : eS), fX10_turnAbout 0 a0 (eE g) = some (v, eE g1) ∧ fX11_turnAbout 38 a0 (eE g1) = some (v, eE g2) ∧ Rl g2)
def Sim12 (Rl : eS → Prop) : Prop := (∀ g : eS, Rl g → ∃ (v : Int32) (g1 g2 : eS), fX10_rain 0  (eE g) = some (v, eE g1) ∧ fX11_rain 38  (eE g1) = some (v, eE g2) ∧ Rl g2)
def Sim13 (Rl : eS → Prop) : Prop := (∀ g : eS, Rl g → ∃ (v : Int32) (g1 g2 : eS), fX10_undo 0  (eE g) = some (v, eE g1) ∧ fX11_undo 38  (eE g1) = some (v, eE g2) ∧ Rl g2)
def Sim14 (Rl : eS → Prop) : Prop := (∀ g : eS, Rl g → ∀ (a0 a1 : Int32), ∃ (v : Int32) (g1 g2 : eS), fX10_joined 0 a0 a1 (eE g) = some (v, eE g1) ∧ fX11_joined 38 a0 a1 (eE g1) = some (v, eE g2) ∧ Rl g2)
def Sim15 (Rl : eS → Prop) : Prop := (∀ g : eS, Rl g → ∃ (v : Int32) (g1 g2 : eS), fX10_toWeave 0  (eE g) = some (v, eE g1) ∧ fX11_toWeave 38  (eE g1) = some (v, eE g2) ∧ Rl g2)
def Sim16 (Rl : eS → Prop) : Prop := (∀ g : eS, Rl g → ∀ (a0 a1 : Int32), ∃ (v : Int32) (g1 g2 : eS), fX10_way 0 a0 a1 (eE g) = some (v, eE g1) ∧ fX11_way 38 a0 a1 (eE g1) = some (v, eE g2) ∧ Rl g2)
def Sim17 (Rl : eS → Prop) : Prop := (∀ g : eS, Rl g → ∀ (a0 : Int32), ∃ (v : Int32) (g1 g2 : eS), fX10_darners 0 a0 (eE g) = some (v, eE g1) ∧ fX11_darners 38 a0 (eE g1) = some (v, eE g2) ∧ Rl g2)
def Sim18 (Rl : eS → Prop) : Prop := (∀ g : eS, Rl g → ∀ (a0 a1 a2 : Int32), ∃ (v : Int32) (g1 g2 : eS), fX10_odds 0 a0 a1 a2 (eE g) = some (v, eE g1) ∧ fX11_odds 38 a0 a1 a2 (eE g1) = some (v, eE g2) ∧ Rl g2)
def Sim19 (Rl : eS → Prop) : Prop := (∀ g : eS, Rl g → ∀ (a0 a1 a2 : Int32), ∃ (v : Int32) (g1 g2 : eS), fX10_wrong 0 a0 a1 a2 (eE g) = some (v, eE g1) ∧ fX11_wrong 38 a0 a1 a2 (eE g1) = some (v, eE g2) ∧ Rl g2)
def Sim20 (Rl : eS → Prop) : Prop := (∀ g : eS, Rl g → ∀ (a0 a1 : Int32), ∃ (v : Int32) (g1 g2 : eS), fX10_look 0 a0 a1 (eE g) = some (v, eE g1) ∧ fX11_look 38 a0 a1 (eE g1) = some (v, eE g2) ∧ Rl g2)
def Sim21 (Rl : eS → Prop) : Prop := (∀ g : eS, Rl g → ∀ (a0 a1 : Int32), ∃ (v : Int32) (g1 g2 : eS), fX10_rate 0 a0 a1 (eE g) = some (v, eE g1) ∧ fX11_rate 38 a0 a1 (eE g1) = some (v, eE g2) ∧ Rl g2)
def Sim22 (Rl : eS → Prop) : Prop := (∀ g : eS, Rl g → ∀ (a0 : Int32), ∃ (v : Int32) (g1 g2 : eS), fX10_keep 0 a0 (eE g) = some (v, eE g1) ∧ fX11_keep 38 a0 (eE g1) = some (v, eE g2) ∧ Rl g2)
def Sim23 (Rl : eS → Prop) : Prop := (∀ g : eS, Rl g → ∀ (a0 : Int32), ∃ (v : Int32) (g1 g2 : eS), fX10_back 0 a0 (eE g) = some (v, eE g1) ∧ fX11_back 38 a0 (eE g1) = some (v, eE g2) ∧ Rl g2)
def Sim24 (Rl : eS → Prop) : Prop := (∀ g : eS, Rl g → ∀ (a0 : Int32), ∃ (v : Int32) (g1 g2 : eS), fX10_count 0 a0 (eE g) = some (v, eE g1) ∧ fX11_count 38 a0 (eE g1) = some (v, eE g2) ∧ Rl g2)
def Sim25 (Rl : eS → Prop) : Prop := (∀ g : eS, Rl g → ∃ (v : Int64) (g1 g2 : eS), fX10_trace 0  (eE g) = some (v, eE g1) ∧ fX11_trace 38  (eE g1) = some (v, eE g2) ∧ Rl g2)
def SimA (Rl : eS → Prop) : Prop := Sim0 Rl ∧ Sim1 Rl ∧ Sim2 Rl ∧ Sim3 Rl ∧ Sim4 Rl ∧ Sim5 Rl ∧ Sim6 Rl ∧ Sim7 Rl ∧ Sim8 Rl ∧ Sim9 Rl ∧ Sim10 Rl ∧ Sim11 Rl ∧ Sim12 Rl ∧ Sim13 Rl ∧ Sim14 Rl ∧ Sim15 Rl ∧ Sim16 Rl ∧ Sim17 Rl ∧ Sim18 Rl ∧ Sim19 Rl ∧ Sim20 Rl ∧ Sim21 Rl ∧ Sim22 Rl ∧ Sim23 Rl ∧ Sim24 Rl ∧ Sim25 Rl
section LAW
variable {p : Program} {l : Launch} {e : Env} {s : State} {m : MethodId} {below : List Frame} {meth : Method} {c : Code} {D : va_G} {cI cZ : ClassId} {b Ln : Nat} {xs : Nat → Int32}
variable {R : Room} {args : Array Value} {A : Nat → Prop} {H0 : Heap} {nL : Nat} {Q : State → Prop} {cells slots : Nat} {r : Nat → Nat} {pc : Nat} {L : List (Nat × Value)} {S : List Value} {w : eW} {y : MethodName} {cc : ByteArray} {ret0 : Option FieldType}
theorem ev_sld (X : eX p s m args meth c D cI cZ A H0 y cc nL ret0) (hr : r 1000 = b) (hX : va_X b Ln xs s H0) (hbl : b < H0.size) (hbA : ¬ A b) {i : Int32} (hin : vp_in i Ln) (hd : decode cc pc = .ok (.iaload, 1))
    (k : EV p l e R s m args below meth c D cI cZ A H0 nL Q cells slots r (pc + 1) L (.int (xs i.toNatClampNeg) :: S) w) : EV p l e R s m args below meth c D cI cZ A H0 nL Q cells slots r pc L (.int i :: .ref 1000 :: S) w := by
  intro H locs ls hP hD hS hl
  have := va_sld (rest := S.map (e_cv r)) X.1 X.2.1 hX hbl hbA hS hin hd (k H locs ls hP hD hS hl)
  simpa [e_cv, hr] using this
theorem ev_slen (X : eX p s m args meth c D cI cZ A H0 y cc nL ret0) (hr : r 1000 = b) (hX : va_X b Ln xs s H0) (hbl : b < H0.size) (hbA : ¬ A b) (hd : decode cc pc = .ok (.arraylength, 1))
    (k : EV p l e R s m args below meth c D cI cZ A H0 nL Q cells slots r (pc + 1) L (.int (Int32.ofNat Ln) :: S) w) : EV p l e R s m args below meth c D cI cZ A H0 nL Q cells slots r pc L (.ref 1000 :: S) w := by
  intro H locs ls hP hD hS hl
  have := va_slen (rest := S.map (e_cv r)) X.1 X.2.1 hX hbl hbA hS hd (k H locs ls hP hD hS hl)
  simpa [e_cv, hr] using this
theorem ev_lcmp0 (X : eX p s m args meth c D cI cZ A H0 y cc nL ret0) {v : Int64} (hd : decode cc pc = .ok (.lcmp, 1))
    (k : EV p l e R s m args below meth c D cI cZ A H0 nL Q cells slots r (pc + 1) L (.int 0 :: S) w) : EV p l e R s m args below meth c D cI cZ A H0 nL Q cells slots r pc L (.long v :: .long v :: S) w := by
  intro H locs ls hP hD hS hl
  refine W.lcmp X.1 X.2.1 hd ?_
  have := k H locs ls hP hD hS hl
  rw [show lg_cmp v v = 0 by simp [lg_cmp]]
  exact this
theorem law_gt {j Ln : Nat} (h : Ln < j + 4) (hj : j ≤ Ln + 4) (hL : Ln ≤ 2048) : Int32.ofNat Ln - 4 < nI j := by
  show nI Ln - nI 4 < nI j
  rw [Int32.lt_iff_toInt_lt, pk_sub_toInt (by omega) (by omega), nI_toInt (by omega)]
  omega
set_option maxRecDepth 100000 in
set_option maxHeartbeats 4000000 in
theorem law_loop (Rl : eS → Prop) (hsim : SimA Rl) (hL : Ln ≤ 2048) (hX : va_X b Ln xs s s.heap) (hbl : b < s.heap.size) (X : eX p s m #[Value.ref b] meth c D cI cZ (fun q : Nat => s.heap.size ≤ q) s.heap ⟨RL, meth.name, ""⟩ cL_law 4 ret) (hrb : r 1000 = b) :
    ∀ (n j : Nat) (g : eS), Rl g → j ≤ Ln + 4 → Ln + 5 ≤ j + n → EV p l e room_1 s m #[Value.ref b] below meth c D cI cZ (fun q : Nat => s.heap.size ≤ q) s.heap 4 (lw_Z below #[Value.ref b] s) 600000 7302249 r 18 [(0, .ref 1000), (1, .ref 0), (2, .ref 38), (3, .int (nI j))] [] (eE g) := by
  have hbA : ¬ (fun q : Nat => s.heap.size ≤ q) b := Nat.not_le.mpr hbl
  obtain ⟨h0, h1, h2, h3, h4, h5, h6, h7, h8, h9, h10, h11, h12, h13, h14, h15, h16, h17, h18, h19, h20, h21, h22, h23, h24, h25⟩ := hsim
  intro n
  induction n with
  | zero => intro j g hR h1 h2; omega
  | succ n ih =>
    intro j g hR hj hn
    have hnext : ∀ g2 : eS, Rl g2 → j + 4 ≤ Ln → EV p l e room_1 s m #[Value.ref b] below meth c D cI cZ (fun q : Nat => s.heap.size ≤ q) s.heap 4 (lw_Z below #[Value.ref b] s) 600000 7302249 r 811 [(0, .ref 1000), (1, .ref 0), (2, .ref 38), (3, .int (nI j))] [] (eE g2) := by
      intro g2 hR2 hj4
      refine ev_iinc (pc := 811) (v := nI (j + 4)) (L' := [(3, .int (nI (j + 4))), (0, .ref 1000), (1, .ref 0), (2, .ref 38)]) X 3 dL_law_811 rfl (nI_add j 4) (by decide) rfl ?_
      refine ev_goto (pc := 814) X 18 dL_law_814 rfl ?_
      exact ev_weak (pc := 18) [1, 2, 3, 0] rfl (ih (j + 4) g2 hR2 (by omega) (by omega))
    refine ev_iload_n (pc := 18) X 3 dL_law_18 rfl rfl ?_
    refine ev_aload_n (pc := 19) X 0 dL_law_19 rfl rfl ?_
    refine ev_slen (pc := 20) X hrb hX hbl hbA dL_law_20 ?_
    refine ev_iconst (pc := 21) (v := (4 : Int32)) X dL_law_21 rfl ?_
    refine ev_isub (pc := 22) X dL_law_22 ?_
    refine ev_icmp_gt (pc := 23) X 817 dL_law_23 rfl (fun hc => ?_) (fun hc => ?_)
    · intro H locs ls hP hD hS hl
      refine lv_iconst (v := 1) X.1 X.2.1 dL_law_817 (by decide) ?_
      refine va_forget (fun q hq => hS.2.2 q hq) ?_
      exact lw_ret X.1 X.2.1 X.2.2.2.2.2.1 X.2.2.2.2.2.2.1 dL_law_818
    · have hj4 : j + 4 ≤ Ln := by
        rcases Nat.lt_or_ge Ln (j + 4) with q | q
        · exact absurd (law_gt q hj hL) hc
        · exact q
      have i0 : vp_in (nI j) Ln := vp_in_nI (by omega) (by omega)
      have i1 : vp_in (nI j + 1) Ln := by rw [nI_1]; exact vp_in_nI (by omega) (by omega)
      have i2 : vp_in (nI j + 2) Ln := by rw [show (2 : Int32) = nI 2 from rfl, nI_add]; exact vp_in_nI (by omega) (by omega)
      have i3 : vp_in (nI j + 3) Ln := by rw [show (3 : Int32) = nI 3 from rfl, nI_add]; exact vp_in_nI (by omega) (by omega)
      have hnext : ∀ g2 : eS, Rl g2 → EV p l e room_1 s m #[Value.ref b] below meth c D cI cZ (fun q : Nat => s.heap.size ≤ q) s.heap 4 (lw_Z below #[Value.ref b] s) 600000 7302249 r 811 [(0, .ref 1000), (1, .ref 0), (2, .ref 38), (3, .int (nI j))] [] (eE g2) := fun g2 h => hnext g2 h hj4
      refine ev_aload_n (pc := 26) X 0 dL_law_26 rfl rfl ?_
      refine ev_iload_n (pc := 27) X 3 dL_law_27 rfl rfl ?_
      refine ev_sld (pc := 28) X hrb hX hbl hbA i0 dL_law_28 ?_
      refine ev_bipush (pc := 29) (v := (31 : Int32)) X dL_law_29 rfl ?_
      refine ev_iand (pc := 31) X dL_law_31 ?_
      generalize xs (nI j).toNatClampNeg &&& 31 = z
      by_cases hq0 : z = (0 : Int32)
      · refine ev_tableIn (pc := 32) X 152 dL_law_32 (by rw [hq0]; decide) (by rw [hq0]; decide) (by rw [hq0]; rfl) rfl ?_
        obtain ⟨v, g1, g2, hf1, hf2, hR2⟩ := h0 g hR (xs (nI j + 1).toNatClampNeg)
        refine ev_aload_n (pc := 152) X 1 dL_law_152 rfl rfl ?_
        refine ev_aload_n (pc := 153) X 0 dL_law_153 rfl rfl ?_
        refine ev_iload_n (pc := 154) X 3 dL_law_154 rfl rfl ?_
        refine ev_iconst (pc := 155) (v := (1 : Int32)) X dL_law_155 rfl ?_
        refine ev_iadd (pc := 156) X dL_law_156 ?_
        refine ev_sld (pc := 157) X hrb hX hbl hbA i1 dL_law_157 ?_
        refine ev_callV_i (pc := 158) (As := [.int (xs (nI j + 1).toNatClampNeg)]) (S := []) X hwX10_type klL_13 hiX10_type hsX10_type (ci := 10) ⟨rfl, rfl⟩ ⟨Nat.le_of_ble_eq_true rfl, Nat.le_of_ble_eq_true rfl⟩ ⟨Nat.le_refl _, Nat.le_refl _⟩ rfl (Nat.le_of_ble_eq_true rfl) dL_law_158 rfl (mX10_type (l := l) (D := D) (cI := cI) (cZ := cZ) hf1).1 (mX10_type hf1).2 ?_
        refine ev_aload_n (pc := 161) X 2 dL_law_161 rfl rfl ?_
        refine ev_aload_n (pc := 162) X 0 dL_law_162 rfl rfl ?_
        refine ev_iload_n (pc := 163) X 3 dL_law_163 rfl rfl ?_
        refine ev_iconst (pc := 164) (v := (1 : Int32)) X dL_law_164 rfl ?_
        refine ev_iadd (pc := 165) X dL_law_165 ?_
        refine ev_sld (pc := 166) X hrb hX hbl hbA i1 dL_law_166 ?_
        refine ev_callV_i (pc := 167) (As := [.int (xs (nI j + 1).toNatClampNeg)]) (S := [.int v]) X hwX11_type klL_17 hiX11_type hsX11_type (ci := 11) ⟨rfl, rfl⟩ ⟨Nat.le_of_ble_eq_true rfl, Nat.le_of_ble_eq_true rfl⟩ ⟨Nat.le_refl _, Nat.le_refl _⟩ rfl (Nat.le_of_ble_eq_true rfl) dL_law_167 rfl (mX11_type (l := l) (D := D) (cI := cI) (cZ := cZ) hf2).1 (mX11_type hf2).2 ?_
        exact ev_icmp_eq (pc := 170) X 811 dL_law_170 rfl (fun _ => hnext g2 hR2) (fun hne => absurd rfl hne)
      by_cases hq1 : z = (1 : Int32)
      · refine ev_tableIn (pc := 32) X 175 dL_law_32 (by rw [hq1]; decide) (by rw [hq1]; decide) (by rw [hq1]; rfl) rfl ?_
        obtain ⟨v, g1, g2, hf1, hf2, hR2⟩ := h1 g hR 
        refine ev_aload_n (pc := 175) X 1 dL_law_175 rfl rfl ?_
        refine ev_callV_i (pc := 176) (As := []) (S := []) X hwX10_clear klL_18 hiX10_clear hsX10_clear (ci := 10) ⟨rfl, rfl⟩ ⟨Nat.le_of_ble_eq_true rfl, Nat.le_of_ble_eq_true rfl⟩ ⟨Nat.le_refl _, Nat.le_refl _⟩ rfl (Nat.le_of_ble_eq_true rfl) dL_law_176 rfl (mX10_clear (l := l) (D := D) (cI := cI) (cZ := cZ) hf1).1 (mX10_clear hf1).2 ?_
        refine ev_aload_n (pc := 179) X 2 dL_law_179 rfl rfl ?_
        refine ev_callV_i (pc := 180) (As := []) (S := [.int v]) X hwX11_clear klL_22 hiX11_clear hsX11_clear (ci := 11) ⟨rfl, rfl⟩ ⟨Nat.le_of_ble_eq_true rfl, Nat.le_of_ble_eq_true rfl⟩ ⟨Nat.le_refl _, Nat.le_refl _⟩ rfl (Nat.le_of_ble_eq_true rfl) dL_law_180 rfl (mX11_clear (l := l) (D := D) (cI := cI) (cZ := cZ) hf2).1 (mX11_clear hf2).2 ?_
        exact ev_icmp_eq (pc := 183) X 811 dL_law_183 rfl (fun _ => hnext g2 hR2) (fun hne => absurd rfl hne)
      by_cases hq2 : z = (2 : Int32)
      · refine ev_tableIn (pc := 32) X 188 dL_law_32 (by rw [hq2]; decide) (by rw [hq2]; decide) (by rw [hq2]; rfl) rfl ?_
        obtain ⟨v, g1, g2, hf1, hf2, hR2⟩ := h2 g hR 
        refine ev_aload_n (pc := 188) X 1 dL_law_188 rfl rfl ?_
        refine ev_callV_i (pc := 189) (As := []) (S := []) X hwX10_land klL_23 hiX10_land hsX10_land (ci := 10) ⟨rfl, rfl⟩ ⟨Nat.le_of_ble_eq_true rfl, Nat.le_of_ble_eq_true rfl⟩ ⟨Nat.le_refl _, Nat.le_refl _⟩ rfl (Nat.le_of_ble_eq_true rfl) dL_law_189 rfl (mX10_land (l := l) (D := D) (cI := cI) (cZ := cZ) hf1).1 (mX10_land hf1).2 ?_
        refine ev_aload_n (pc := 192) X 2 dL_law_192 rfl rfl ?_
        refine ev_callV_i (pc := 193) (As := []) (S := [.int v]) X hwX11_land klL_26 hiX11_land hsX11_land (ci := 11) ⟨rfl, rfl⟩ ⟨Nat.le_of_ble_eq_true rfl, Nat.le_of_ble_eq_true rfl⟩ ⟨Nat.le_refl _, Nat.le_refl _⟩ rfl (Nat.le_of_ble_eq_true rfl) dL_law_193 rfl (mX11_land (l := l) (D := D) (cI := cI) (cZ := cZ) hf2).1 (mX11_land hf2).2 ?_
        exact ev_icmp_eq (pc := 196) X 811 dL_law_196 rfl (fun _ => hnext g2 hR2) (fun hne => absurd rfl hne)
      by_cases hq3 : z = (3 : Int32)
      · refine ev_tableIn (pc := 32) X 201 dL_law_32 (by rw [hq3]; decide) (by rw [hq3]; decide) (by rw [hq3]; rfl) rfl ?_
        obtain ⟨v, g1, g2, hf1, hf2, hR2⟩ := h3 g hR (xs (nI j + 1).toNatClampNeg)
        refine ev_aload_n (pc := 201) X 1 dL_law_201 rfl rfl ?_
        refine ev_aload_n (pc := 202) X 0 dL_law_202 rfl rfl ?_
        refine ev_iload_n (pc := 203) X 3 dL_law_203 rfl rfl ?_
        refine ev_iconst (pc := 204) (v := (1 : Int32)) X dL_law_204 rfl ?_
        refine ev_iadd (pc := 205) X dL_law_205 ?_
        refine ev_sld (pc := 206) X hrb hX hbl hbA i1 dL_law_206 ?_
        refine ev_callV_i (pc := 207) (As := [.int (xs (nI j + 1).toNatClampNeg)]) (S := []) X hwX10_height klL_27 hiX10_height hsX10_height (ci := 10) ⟨rfl, rfl⟩ ⟨Nat.le_of_ble_eq_true rfl, Nat.le_of_ble_eq_true rfl⟩ ⟨Nat.le_refl _, Nat.le_refl _⟩ rfl (Nat.le_of_ble_eq_true rfl) dL_law_207 rfl (mX10_height (l := l) (D := D) (cI := cI) (cZ := cZ) hf1).1 (mX10_height hf1).2 ?_
        refine ev_aload_n (pc := 210) X 2 dL_law_210 rfl rfl ?_
        refine ev_aload_n (pc := 211) X 0 dL_law_211 rfl rfl ?_
        refine ev_iload_n (pc := 212) X 3 dL_law_212 rfl rfl ?_
        refine ev_iconst (pc := 213) (v := (1 : Int32)) X dL_law_213 rfl ?_
        refine ev_iadd (pc := 214) X dL_law_214 ?_
        refine ev_sld (pc := 215) X hrb hX hbl hbA i1 dL_law_215 ?_
        refine ev_callV_i (pc := 216) (As := [.int (xs (nI j + 1).toNatClampNeg)]) (S := [.int v]) X hwX11_height klL_30 hiX11_height hsX11_height (ci := 11) ⟨rfl, rfl⟩ ⟨Nat.le_of_ble_eq_true rfl, Nat.le_of_ble_eq_true rfl⟩ ⟨Nat.le_refl _, Nat.le_refl _⟩ rfl (Nat.le_of_ble_eq_true rfl) dL_law_216 rfl (mX11_height (l := l) (D := D) (cI := cI) (cZ := cZ) hf2).1 (mX11_height hf2).2 ?_
        exact ev_icmp_eq (pc := 219) X 811 dL_law_219 rfl (fun _ => hnext g2 hR2) (fun hne => absurd rfl hne)
      by_cases hq4 : z = (4 : Int32)
      · refine ev_tableIn (pc := 32) X 224 dL_law_32 (by rw [hq4]; decide) (by rw [hq4]; decide) (by rw [hq4]; rfl) rfl ?_
        obtain ⟨v, g1, g2, hf1, hf2, hR2⟩ := h4 g hR (xs (nI j + 1).toNatClampNeg)
        refine ev_aload_n (pc := 224) X 1 dL_law_224 rfl rfl ?_
        refine ev_aload_n (pc := 225) X 0 dL_law_225 rfl rfl ?_
        refine ev_iload_n (pc := 226) X 3 dL_law_226 rfl rfl ?_
        refine ev_iconst (pc := 227) (v := (1 : Int32)) X dL_law_227 rfl ?_
        refine ev_iadd (pc := 228) X dL_law_228 ?_
        refine ev_sld (pc := 229) X hrb hX hbl hbA i1 dL_law_229 ?_
        refine ev_callV_i (pc := 230) (As := [.int (xs (nI j + 1).toNatClampNeg)]) (S := []) X hwX10_town klL_31 hiX10_town hsX10_town (ci := 10) ⟨rfl, rfl⟩ ⟨Nat.le_of_ble_eq_true rfl, Nat.le_of_ble_eq_true rfl⟩ ⟨Nat.le_refl _, Nat.le_refl _⟩ rfl (Nat.le_of_ble_eq_true rfl) dL_law_230 rfl (mX10_town (l := l) (D := D) (cI := cI) (cZ := cZ) hf1).1 (mX10_town hf1).2 ?_
        refine ev_aload_n (pc := 233) X 2 dL_law_233 rfl rfl ?_
        refine ev_aload_n (pc := 234) X 0 dL_law_234 rfl rfl ?_
        refine ev_iload_n (pc := 235) X 3 dL_law_235 rfl rfl ?_
        refine ev_iconst (pc := 236) (v := (1 : Int32)) X dL_law_236 rfl ?_
        refine ev_iadd (pc := 237) X dL_law_237 ?_
        refine ev_sld (pc := 238) X hrb hX hbl hbA i1 dL_law_238 ?_
        refine ev_callV_i (pc := 239) (As := [.int (xs (nI j + 1).toNatClampNeg)]) (S := [.int v]) X hwX11_town klL_34 hiX11_town hsX11_town (ci := 11) ⟨rfl, rfl⟩ ⟨Nat.le_of_ble_eq_true rfl, Nat.le_of_ble_eq_true rfl⟩ ⟨Nat.le_refl _, Nat.le_refl _⟩ rfl (Nat.le_of_ble_eq_true rfl) dL_law_239 rfl (mX11_town (l := l) (D := D) (cI := cI) (cZ := cZ) hf2).1 (mX11_town hf2).2 ?_
        exact ev_icmp_eq (pc := 242) X 811 dL_law_242 rfl (fun _ => hnext g2 hR2) (fun hne => absurd rfl hne)
      by_cases hq5 : z = (5 : Int32)
      · refine ev_tableIn (pc := 32) X 247 dL_law_32 (by rw [hq5]; decide) (by rw [hq5]; decide) (by rw [hq5]; rfl) rfl ?_
        obtain ⟨v, g1, g2, hf1, hf2, hR2⟩ := h5 g hR (xs (nI j + 1).toNatClampNeg) (xs (nI j + 2).toNatClampNeg)
        refine ev_aload_n (pc := 247) X 1 dL_law_247 rfl rfl ?_
        refine ev_aload_n (pc := 248) X 0 dL_law_248 rfl rfl ?_
        refine ev_iload_n (pc := 249) X 3 dL_law_249 rfl rfl ?_
        refine ev_iconst (pc := 250) (v := (1 : Int32)) X dL_law_250 rfl ?_
        refine ev_iadd (pc := 251) X dL_law_251 ?_
        refine ev_sld (pc := 252) X hrb hX hbl hbA i1 dL_law_252 ?_
        refine ev_aload_n (pc := 253) X 0 dL_law_253 rfl rfl ?_
        refine ev_iload_n (pc := 254) X 3 dL_law_254 rfl rfl ?_
        refine ev_iconst (pc := 255) (v := (2 : Int32)) X dL_law_255 rfl ?_
        refine ev_iadd (pc := 256) X dL_law_256 ?_
        refine ev_sld (pc := 257) X hrb hX hbl hbA i2 dL_law_257 ?_
        refine ev_callV_i (pc := 258) (As := [.int (xs (nI j + 1).toNatClampNeg), .int (xs (nI j + 2).toNatClampNeg)]) (S := []) X hwX10_bolt klL_35 hiX10_bolt hsX10_bolt (ci := 10) ⟨rfl, rfl⟩ ⟨Nat.le_of_ble_eq_true rfl, Nat.le_of_ble_eq_true rfl⟩ ⟨Nat.le_refl _, Nat.le_refl _⟩ rfl (Nat.le_of_ble_eq_true rfl) dL_law_258 rfl (mX10_bolt (l := l) (D := D) (cI := cI) (cZ := cZ) hf1).1 (mX10_bolt hf1).2 ?_
        refine ev_aload_n (pc := 261) X 2 dL_law_261 rfl rfl ?_
        refine ev_aload_n (pc := 262) X 0 dL_law_262 rfl rfl ?_
        refine ev_iload_n (pc := 263) X 3 dL_law_263 rfl rfl ?_
        refine ev_iconst (pc := 264) (v := (1 : Int32)) X dL_law_264 rfl ?_
        refine ev_iadd (pc := 265) X dL_law_265 ?_
        refine ev_sld (pc := 266) X hrb hX hbl hbA i1 dL_law_266 ?_
        refine ev_aload_n (pc := 267) X 0 dL_law_267 rfl rfl ?_
        refine ev_iload_n (pc := 268) X 3 dL_law_268 rfl rfl ?_
        refine ev_iconst (pc := 269) (v := (2 : Int32)) X dL_law_269 rfl ?_
        refine ev_iadd (pc := 270) X dL_law_270 ?_
        refine ev_sld (pc := 271) X hrb hX hbl hbA i2 dL_law_271 ?_
        refine ev_callV_i (pc := 272) (As := [.int (xs (nI j + 1).toNatClampNeg), .int (xs (nI j + 2).toNatClampNeg)]) (S := [.int v]) X hwX11_bolt klL_39 hiX11_bolt hsX11_bolt (ci := 11) ⟨rfl, rfl⟩ ⟨Nat.le_of_ble_eq_true rfl, Nat.le_of_ble_eq_true rfl⟩ ⟨Nat.le_refl _, Nat.le_refl _⟩ rfl (Nat.le_of_ble_eq_true rfl) dL_law_272 rfl (mX11_bolt (l := l) (D := D) (cI := cI) (cZ := cZ) hf2).1 (mX11_bolt hf2).2 ?_
        exact ev_icmp_eq (pc := 275) X 811 dL_law_275 rfl (fun _ => hnext g2 hR2) (fun hne => absurd rfl hne)
      by_cases hq6 : z = (6 : Int32)
      · refine ev_tableIn (pc := 32) X 280 dL_law_32 (by rw [hq6]; decide) (by rw [hq6]; decide) (by rw [hq6]; rfl) rfl ?_
        obtain ⟨v, g1, g2, hf1, hf2, hR2⟩ := h6 g hR (xs (nI j + 1).toNatClampNeg) (xs (nI j + 2).toNatClampNeg)
        refine ev_aload_n (pc := 280) X 1 dL_law_280 rfl rfl ?_
        refine ev_aload_n (pc := 281) X 0 dL_law_281 rfl rfl ?_
        refine ev_iload_n (pc := 282) X 3 dL_law_282 rfl rfl ?_
        refine ev_iconst (pc := 283) (v := (1 : Int32)) X dL_law_283 rfl ?_
        refine ev_iadd (pc := 284) X dL_law_284 ?_
        refine ev_sld (pc := 285) X hrb hX hbl hbA i1 dL_law_285 ?_
        refine ev_aload_n (pc := 286) X 0 dL_law_286 rfl rfl ?_
        refine ev_iload_n (pc := 287) X 3 dL_law_287 rfl rfl ?_
        refine ev_iconst (pc := 288) (v := (2 : Int32)) X dL_law_288 rfl ?_
        refine ev_iadd (pc := 289) X dL_law_289 ?_
        refine ev_sld (pc := 290) X hrb hX hbl hbA i2 dL_law_290 ?_
        refine ev_callV_i (pc := 291) (As := [.int (xs (nI j + 1).toNatClampNeg), .int (xs (nI j + 2).toNatClampNeg)]) (S := []) X hwX10_card klL_40 hiX10_card hsX10_card (ci := 10) ⟨rfl, rfl⟩ ⟨Nat.le_of_ble_eq_true rfl, Nat.le_of_ble_eq_true rfl⟩ ⟨Nat.le_refl _, Nat.le_refl _⟩ rfl (Nat.le_of_ble_eq_true rfl) dL_law_291 rfl (mX10_card (l := l) (D := D) (cI := cI) (cZ := cZ) hf1).1 (mX10_card hf1).2 ?_
        refine ev_aload_n (pc := 294) X 2 dL_law_294 rfl rfl ?_
        refine ev_aload_n (pc := 295) X 0 dL_law_295 rfl rfl ?_
        refine ev_iload_n (pc := 296) X 3 dL_law_296 rfl rfl ?_
        refine ev_iconst (pc := 297) (v := (1 : Int32)) X dL_law_297 rfl ?_
        refine ev_iadd (pc := 298) X dL_law_298 ?_
        refine ev_sld (pc := 299) X hrb hX hbl hbA i1 dL_law_299 ?_
        refine ev_aload_n (pc := 300) X 0 dL_law_300 rfl rfl ?_
        refine ev_iload_n (pc := 301) X 3 dL_law_301 rfl rfl ?_
        refine ev_iconst (pc := 302) (v := (2 : Int32)) X dL_law_302 rfl ?_
        refine ev_iadd (pc := 303) X dL_law_303 ?_
        refine ev_sld (pc := 304) X hrb hX hbl hbA i2 dL_law_304 ?_
        refine ev_callV_i (pc := 305) (As := [.int (xs (nI j + 1).toNatClampNeg), .int (xs (nI j + 2).toNatClampNeg)]) (S := [.int v]) X hwX11_card klL_43 hiX11_card hsX11_card (ci := 11) ⟨rfl, rfl⟩ ⟨Nat.le_of_ble_eq_true rfl, Nat.le_of_ble_eq_true rfl⟩ ⟨Nat.le_refl _, Nat.le_refl _⟩ rfl (Nat.le_of_ble_eq_true rfl) dL_law_305 rfl (mX11_card (l := l) (D := D) (cI := cI) (cZ := cZ) hf2).1 (mX11_card hf2).2 ?_
        exact ev_icmp_eq (pc := 308) X 811 dL_law_308 rfl (fun _ => hnext g2 hR2) (fun hne => absurd rfl hne)
      by_cases hq7 : z = (7 : Int32)
      · refine ev_tableIn (pc := 32) X 313 dL_law_32 (by rw [hq7]; decide) (by rw [hq7]; decide) (by rw [hq7]; rfl) rfl ?_
        obtain ⟨v, g1, g2, hf1, hf2, hR2⟩ := h7 g hR (xs (nI j + 1).toNatClampNeg) (xs (nI j + 2).toNatClampNeg)
        refine ev_aload_n (pc := 313) X 1 dL_law_313 rfl rfl ?_
        refine ev_aload_n (pc := 314) X 0 dL_law_314 rfl rfl ?_
        refine ev_iload_n (pc := 315) X 3 dL_law_315 rfl rfl ?_
        refine ev_iconst (pc := 316) (v := (1 : Int32)) X dL_law_316 rfl ?_
        refine ev_iadd (pc := 317) X dL_law_317 ?_
        refine ev_sld (pc := 318) X hrb hX hbl hbA i1 dL_law_318 ?_
        refine ev_aload_n (pc := 319) X 0 dL_law_319 rfl rfl ?_
        refine ev_iload_n (pc := 320) X 3 dL_law_320 rfl rfl ?_
        refine ev_iconst (pc := 321) (v := (2 : Int32)) X dL_law_321 rfl ?_
        refine ev_iadd (pc := 322) X dL_law_322 ?_
        refine ev_sld (pc := 323) X hrb hX hbl hbA i2 dL_law_323 ?_
        refine ev_callV_i (pc := 324) (As := [.int (xs (nI j + 1).toNatClampNeg), .int (xs (nI j + 2).toNatClampNeg)]) (S := []) X hwX10_road klL_44 hiX10_road hsX10_road (ci := 10) ⟨rfl, rfl⟩ ⟨Nat.le_of_ble_eq_true rfl, Nat.le_of_ble_eq_true rfl⟩ ⟨Nat.le_refl _, Nat.le_refl _⟩ rfl (Nat.le_of_ble_eq_true rfl) dL_law_324 rfl (mX10_road (l := l) (D := D) (cI := cI) (cZ := cZ) hf1).1 (mX10_road hf1).2 ?_
        refine ev_aload_n (pc := 327) X 2 dL_law_327 rfl rfl ?_
        refine ev_aload_n (pc := 328) X 0 dL_law_328 rfl rfl ?_
        refine ev_iload_n (pc := 329) X 3 dL_law_329 rfl rfl ?_
        refine ev_iconst (pc := 330) (v := (1 : Int32)) X dL_law_330 rfl ?_
        refine ev_iadd (pc := 331) X dL_law_331 ?_
        refine ev_sld (pc := 332) X hrb hX hbl hbA i1 dL_law_332 ?_
        refine ev_aload_n (pc := 333) X 0 dL_law_333 rfl rfl ?_
        refine ev_iload_n (pc := 334) X 3 dL_law_334 rfl rfl ?_
        refine ev_iconst (pc := 335) (v := (2 : Int32)) X dL_law_335 rfl ?_
        refine ev_iadd (pc := 336) X dL_law_336 ?_
        refine ev_sld (pc := 337) X hrb hX hbl hbA i2 dL_law_337 ?_
        refine ev_callV_i (pc := 338) (As := [.int (xs (nI j + 1).toNatClampNeg), .int (xs (nI j + 2).toNatClampNeg)]) (S := [.int v]) X hwX11_road klL_47 hiX11_road hsX11_road (ci := 11) ⟨rfl, rfl⟩ ⟨Nat.le_of_ble_eq_true rfl, Nat.le_of_ble_eq_true rfl⟩ ⟨Nat.le_refl _, Nat.le_refl _⟩ rfl (Nat.le_of_ble_eq_true rfl) dL_law_338 rfl (mX11_road (l := l) (D := D) (cI := cI) (cZ := cZ) hf2).1 (mX11_road hf2).2 ?_
        exact ev_icmp_eq (pc := 341) X 811 dL_law_341 rfl (fun _ => hnext g2 hR2) (fun hne => absurd rfl hne)
      by_cases hq8 : z = (8 : Int32)
      · refine ev_tableIn (pc := 32) X 346 dL_law_32 (by rw [hq8]; decide) (by rw [hq8]; decide) (by rw [hq8]; rfl) rfl ?_
        obtain ⟨v, g1, g2, hf1, hf2, hR2⟩ := h8 g hR (xs (nI j + 1).toNatClampNeg)
        refine ev_aload_n (pc := 346) X 1 dL_law_346 rfl rfl ?_
        refine ev_aload_n (pc := 347) X 0 dL_law_347 rfl rfl ?_
        refine ev_iload_n (pc := 348) X 3 dL_law_348 rfl rfl ?_
        refine ev_iconst (pc := 349) (v := (1 : Int32)) X dL_law_349 rfl ?_
        refine ev_iadd (pc := 350) X dL_law_350 ?_
        refine ev_sld (pc := 351) X hrb hX hbl hbA i1 dL_law_351 ?_
        refine ev_callV_i (pc := 352) (As := [.int (xs (nI j + 1).toNatClampNeg)]) (S := []) X hwX10_now klL_48 hiX10_now hsX10_now (ci := 10) ⟨rfl, rfl⟩ ⟨Nat.le_of_ble_eq_true rfl, Nat.le_of_ble_eq_true rfl⟩ ⟨Nat.le_refl _, Nat.le_refl _⟩ rfl (Nat.le_of_ble_eq_true rfl) dL_law_352 rfl (mX10_now (l := l) (D := D) (cI := cI) (cZ := cZ) hf1).1 (mX10_now hf1).2 ?_
        refine ev_aload_n (pc := 355) X 2 dL_law_355 rfl rfl ?_
        refine ev_aload_n (pc := 356) X 0 dL_law_356 rfl rfl ?_
        refine ev_iload_n (pc := 357) X 3 dL_law_357 rfl rfl ?_
        refine ev_iconst (pc := 358) (v := (1 : Int32)) X dL_law_358 rfl ?_
        refine ev_iadd (pc := 359) X dL_law_359 ?_
        refine ev_sld (pc := 360) X hrb hX hbl hbA i1 dL_law_360 ?_
        refine ev_callV_i (pc := 361) (As := [.int (xs (nI j + 1).toNatClampNeg)]) (S := [.int v]) X hwX11_now klL_51 hiX11_now hsX11_now (ci := 11) ⟨rfl, rfl⟩ ⟨Nat.le_of_ble_eq_true rfl, Nat.le_of_ble_eq_true rfl⟩ ⟨Nat.le_refl _, Nat.le_refl _⟩ rfl (Nat.le_of_ble_eq_true rfl) dL_law_361 rfl (mX11_now (l := l) (D := D) (cI := cI) (cZ := cZ) hf2).1 (mX11_now hf2).2 ?_
        exact ev_icmp_eq (pc := 364) X 811 dL_law_364 rfl (fun _ => hnext g2 hR2) (fun hne => absurd rfl hne)
      by_cases hq9 : z = (9 : Int32)
      · refine ev_tableIn (pc := 32) X 369 dL_law_32 (by rw [hq9]; decide) (by rw [hq9]; decide) (by rw [hq9]; rfl) rfl ?_
        obtain ⟨v, g1, g2, hf1, hf2, hR2⟩ := h9 g hR (xs (nI j + 1).toNatClampNeg)
        refine ev_aload_n (pc := 369) X 1 dL_law_369 rfl rfl ?_
        refine ev_aload_n (pc := 370) X 0 dL_law_370 rfl rfl ?_
        refine ev_iload_n (pc := 371) X 3 dL_law_371 rfl rfl ?_
        refine ev_iconst (pc := 372) (v := (1 : Int32)) X dL_law_372 rfl ?_
        refine ev_iadd (pc := 373) X dL_law_373 ?_
        refine ev_sld (pc := 374) X hrb hX hbl hbA i1 dL_law_374 ?_
        refine ev_callV_i (pc := 375) (As := [.int (xs (nI j + 1).toNatClampNeg)]) (S := []) X hwX10_begins klL_52 hiX10_begins hsX10_begins (ci := 10) ⟨rfl, rfl⟩ ⟨Nat.le_of_ble_eq_true rfl, Nat.le_of_ble_eq_true rfl⟩ ⟨Nat.le_refl _, Nat.le_refl _⟩ rfl (Nat.le_of_ble_eq_true rfl) dL_law_375 rfl (mX10_begins (l := l) (D := D) (cI := cI) (cZ := cZ) hf1).1 (mX10_begins hf1).2 ?_
        refine ev_aload_n (pc := 378) X 2 dL_law_378 rfl rfl ?_
        refine ev_aload_n (pc := 379) X 0 dL_law_379 rfl rfl ?_
        refine ev_iload_n (pc := 380) X 3 dL_law_380 rfl rfl ?_
        refine ev_iconst (pc := 381) (v := (1 : Int32)) X dL_law_381 rfl ?_
        refine ev_iadd (pc := 382) X dL_law_382 ?_
        refine ev_sld (pc := 383) X hrb hX hbl hbA i1 dL_law_383 ?_
        refine ev_callV_i (pc := 384) (As := [.int (xs (nI j + 1).toNatClampNeg)]) (S := [.int v]) X hwX11_begins klL_55 hiX11_begins hsX11_begins (ci := 11) ⟨rfl, rfl⟩ ⟨Nat.le_of_ble_eq_true rfl, Nat.le_of_ble_eq_true rfl⟩ ⟨Nat.le_refl _, Nat.le_refl _⟩ rfl (Nat.le_of_ble_eq_true rfl) dL_law_384 rfl (mX11_begins (l := l) (D := D) (cI := cI) (cZ := cZ) hf2).1 (mX11_begins hf2).2 ?_
        exact ev_icmp_eq (pc := 387) X 811 dL_law_387 rfl (fun _ => hnext g2 hR2) (fun hne => absurd rfl hne)
      by_cases hq10 : z = (10 : Int32)
      · refine ev_tableIn (pc := 32) X 392 dL_law_32 (by rw [hq10]; decide) (by rw [hq10]; decide) (by rw [hq10]; rfl) rfl ?_
        obtain ⟨v, g1, g2, hf1, hf2, hR2⟩ := h10 g hR (xs (nI j + 1).toNatClampNeg) (xs (nI j + 2).toNatClampNeg)
        refine ev_aload_n (pc := 392) X 1 dL_law_392 rfl rfl ?_
        refine ev_aload_n (pc := 393) X 0 dL_law_393 rfl rfl ?_
        refine ev_iload_n (pc := 394) X 3 dL_law_394 rfl rfl ?_
        refine ev_iconst (pc := 395) (v := (1 : Int32)) X dL_law_395 rfl ?_
        refine ev_iadd (pc := 396) X dL_law_396 ?_
        refine ev_sld (pc := 397) X hrb hX hbl hbA i1 dL_law_397 ?_
        refine ev_aload_n (pc := 398) X 0 dL_law_398 rfl rfl ?_
        refine ev_iload_n (pc := 399) X 3 dL_law_399 rfl rfl ?_
        refine ev_iconst (pc := 400) (v := (2 : Int32)) X dL_law_400 rfl ?_
        refine ev_iadd (pc := 401) X dL_law_401 ?_
        refine ev_sld (pc := 402) X hrb hX hbl hbA i2 dL_law_402 ?_
        refine ev_callV_i (pc := 403) (As := [.int (xs (nI j + 1).toNatClampNeg), .int (xs (nI j + 2).toNatClampNeg)]) (S := []) X hwX10_weaves klL_56 hiX10_weaves hsX10_weaves (ci := 10) ⟨rfl, rfl⟩ ⟨Nat.le_of_ble_eq_true rfl, Nat.le_of_ble_eq_true rfl⟩ ⟨Nat.le_refl _, Nat.le_refl _⟩ rfl (Nat.le_of_ble_eq_true rfl) dL_law_403 rfl (mX10_weaves (l := l) (D := D) (cI := cI) (cZ := cZ) hf1).1 (mX10_weaves hf1).2 ?_
        refine ev_aload_n (pc := 406) X 2 dL_law_406 rfl rfl ?_
        refine ev_aload_n (pc := 407) X 0 dL_law_407 rfl rfl ?_
        refine ev_iload_n (pc := 408) X 3 dL_law_408 rfl rfl ?_
        refine ev_iconst (pc := 409) (v := (1 : Int32)) X dL_law_409 rfl ?_
        refine ev_iadd (pc := 410) X dL_law_410 ?_
        refine ev_sld (pc := 411) X hrb hX hbl hbA i1 dL_law_411 ?_
        refine ev_aload_n (pc := 412) X 0 dL_law_412 rfl rfl ?_
        refine ev_iload_n (pc := 413) X 3 dL_law_413 rfl rfl ?_
        refine ev_iconst (pc := 414) (v := (2 : Int32)) X dL_law_414 rfl ?_
        refine ev_iadd (pc := 415) X dL_law_415 ?_
        refine ev_sld (pc := 416) X hrb hX hbl hbA i2 dL_law_416 ?_
        refine ev_callV_i (pc := 417) (As := [.int (xs (nI j + 1).toNatClampNeg), .int (xs (nI j + 2).toNatClampNeg)]) (S := [.int v]) X hwX11_weaves klL_59 hiX11_weaves hsX11_weaves (ci := 11) ⟨rfl, rfl⟩ ⟨Nat.le_of_ble_eq_true rfl, Nat.le_of_ble_eq_true rfl⟩ ⟨Nat.le_refl _, Nat.le_refl _⟩ rfl (Nat.le_of_ble_eq_true rfl) dL_law_417 rfl (mX11_weaves (l := l) (D := D) (cI := cI) (cZ := cZ) hf2).1 (mX11_weaves hf2).2 ?_
        exact ev_icmp_eq (pc := 420) X 811 dL_law_420 rfl (fun _ => hnext g2 hR2) (fun hne => absurd rfl hne)
      by_cases hq11 : z = (11 : Int32)
      · refine ev_tableIn (pc := 32) X 425 dL_law_32 (by rw [hq11]; decide) (by rw [hq11]; decide) (by rw [hq11]; rfl) rfl ?_
        obtain ⟨v, g1, g2, hf1, hf2, hR2⟩ := h11 g hR (xs (nI j + 1).toNatClampNeg)
        refine ev_aload_n (pc := 425) X 1 dL_law_425 rfl rfl ?_
        refine ev_aload_n (pc := 426) X 0 dL_law_426 rfl rfl ?_
        refine ev_iload_n (pc := 427) X 3 dL_law_427 rfl rfl ?_
        refine ev_iconst (pc := 428) (v := (1 : Int32)) X dL_law_428 rfl ?_
        refine ev_iadd (pc := 429) X dL_law_429 ?_
        refine ev_sld (pc := 430) X hrb hX hbl hbA i1 dL_law_430 ?_
        refine ev_callV_i (pc := 431) (As := [.int (xs (nI j + 1).toNatClampNeg)]) (S := []) X hwX10_turnAbout klL_60 hiX10_turnAbout hsX10_turnAbout (ci := 10) ⟨rfl, rfl⟩ ⟨Nat.le_of_ble_eq_true rfl, Nat.le_of_ble_eq_true rfl⟩ ⟨Nat.le_refl _, Nat.le_refl _⟩ rfl (Nat.le_of_ble_eq_true rfl) dL_law_431 rfl (mX10_turnAbout (l := l) (D := D) (cI := cI) (cZ := cZ) hf1).1 (mX10_turnAbout hf1).2 ?_
        refine ev_aload_n (pc := 434) X 2 dL_law_434 rfl rfl ?_
        refine ev_aload_n (pc := 435) X 0 dL_law_435 rfl rfl ?_
        refine ev_iload_n (pc := 436) X 3 dL_law_436 rfl rfl ?_
        refine ev_iconst (pc := 437) (v := (1 : Int32)) X dL_law_437 rfl ?_
        refine ev_iadd (pc := 438) X dL_law_438 ?_
        refine ev_sld (pc := 439) X hrb hX hbl hbA i1 dL_law_439 ?_
        refine ev_callV_i (pc := 440) (As := [.int (xs (nI j + 1).toNatClampNeg)]) (S := [.int v]) X hwX11_turnAbout klL_63 hiX11_turnAbout hsX11_turnAbout (ci := 11) ⟨rfl, rfl⟩ ⟨Nat.le_of_ble_eq_true rfl, Nat.le_of_ble_eq_true rfl⟩ ⟨Nat.le_refl _, Nat.le_refl _⟩ rfl (Nat.le_of_ble_eq_true rfl) dL_law_440 rfl (mX11_turnAbout (l := l) (D := D) (cI := cI) (cZ := cZ) hf2).1 (mX11_turnAbout hf2).2 ?_
        exact ev_icmp_eq (pc := 443) X 811 dL_law_443 rfl (fun _ => hnext g2 hR2) (fun hne => absurd rfl hne)
      by_cases hq12 : z = (12 : Int32)
      · refine ev_tableIn (pc := 32) X 448 dL_law_32 (by rw [hq12]; decide) (by rw [hq12]; decide) (by rw [hq12]; rfl) rfl ?_
        obtain ⟨v, g1, g2, hf1, hf2, hR2⟩ := h12 g hR 
        refine ev_aload_n (pc := 448) X 1 dL_law_448 rfl rfl ?_
        refine ev_callV_i (pc := 449) (As := []) (S := []) X hwX10_rain klL_64 hiX10_rain hsX10_rain (ci := 10) ⟨rfl, rfl⟩ ⟨Nat.le_of_ble_eq_true rfl, Nat.le_of_ble_eq_true rfl⟩ ⟨Nat.le_refl _, Nat.le_refl _⟩ rfl (Nat.le_of_ble_eq_true rfl) dL_law_449 rfl (mX10_rain (l := l) (D := D) (cI := cI) (cZ := cZ) hf1).1 (mX10_rain hf1).2 ?_
        refine ev_aload_n (pc := 452) X 2 dL_law_452 rfl rfl ?_
        refine ev_callV_i (pc := 453) (As := []) (S := [.int v]) X hwX11_rain klL_67 hiX11_rain hsX11_rain (ci := 11) ⟨rfl, rfl⟩ ⟨Nat.le_of_ble_eq_true rfl, Nat.le_of_ble_eq_true rfl⟩ ⟨Nat.le_refl _, Nat.le_refl _⟩ rfl (Nat.le_of_ble_eq_true rfl) dL_law_453 rfl (mX11_rain (l := l) (D := D) (cI := cI) (cZ := cZ) hf2).1 (mX11_rain hf2).2 ?_
        exact ev_icmp_eq (pc := 456) X 811 dL_law_456 rfl (fun _ => hnext g2 hR2) (fun hne => absurd rfl hne)
      by_cases hq13 : z = (13 : Int32)
      · refine ev_tableIn (pc := 32) X 461 dL_law_32 (by rw [hq13]; decide) (by rw [hq13]; decide) (by rw [hq13]; rfl) rfl ?_
        obtain ⟨v, g1, g2, hf1, hf2, hR2⟩ := h13 g hR 
        refine ev_aload_n (pc := 461) X 1 dL_law_461 rfl rfl ?_
        refine ev_callV_i (pc := 462) (As := []) (S := []) X hwX10_undo klL_68 hiX10_undo hsX10_undo (ci := 10) ⟨rfl, rfl⟩ ⟨Nat.le_of_ble_eq_true rfl, Nat.le_of_ble_eq_true rfl⟩ ⟨Nat.le_refl _, Nat.le_refl _⟩ rfl (Nat.le_of_ble_eq_true rfl) dL_law_462 rfl (mX10_undo (l := l) (D := D) (cI := cI) (cZ := cZ) hf1).1 (mX10_undo hf1).2 ?_
        refine ev_aload_n (pc := 465) X 2 dL_law_465 rfl rfl ?_
        refine ev_callV_i (pc := 466) (As := []) (S := [.int v]) X hwX11_undo klL_71 hiX11_undo hsX11_undo (ci := 11) ⟨rfl, rfl⟩ ⟨Nat.le_of_ble_eq_true rfl, Nat.le_of_ble_eq_true rfl⟩ ⟨Nat.le_refl _, Nat.le_refl _⟩ rfl (Nat.le_of_ble_eq_true rfl) dL_law_466 rfl (mX11_undo (l := l) (D := D) (cI := cI) (cZ := cZ) hf2).1 (mX11_undo hf2).2 ?_
        exact ev_icmp_eq (pc := 469) X 811 dL_law_469 rfl (fun _ => hnext g2 hR2) (fun hne => absurd rfl hne)
      by_cases hq14 : z = (14 : Int32)
      · refine ev_tableIn (pc := 32) X 474 dL_law_32 (by rw [hq14]; decide) (by rw [hq14]; decide) (by rw [hq14]; rfl) rfl ?_
        obtain ⟨v, g1, g2, hf1, hf2, hR2⟩ := h14 g hR (xs (nI j + 1).toNatClampNeg) (xs (nI j + 2).toNatClampNeg)
        refine ev_aload_n (pc := 474) X 1 dL_law_474 rfl rfl ?_
        refine ev_aload_n (pc := 475) X 0 dL_law_475 rfl rfl ?_
        refine ev_iload_n (pc := 476) X 3 dL_law_476 rfl rfl ?_
        refine ev_iconst (pc := 477) (v := (1 : Int32)) X dL_law_477 rfl ?_
        refine ev_iadd (pc := 478) X dL_law_478 ?_
        refine ev_sld (pc := 479) X hrb hX hbl hbA i1 dL_law_479 ?_
        refine ev_aload_n (pc := 480) X 0 dL_law_480 rfl rfl ?_
        refine ev_iload_n (pc := 481) X 3 dL_law_481 rfl rfl ?_
        refine ev_iconst (pc := 482) (v := (2 : Int32)) X dL_law_482 rfl ?_
        refine ev_iadd (pc := 483) X dL_law_483 ?_
        refine ev_sld (pc := 484) X hrb hX hbl hbA i2 dL_law_484 ?_
        refine ev_callV_i (pc := 485) (As := [.int (xs (nI j + 1).toNatClampNeg), .int (xs (nI j + 2).toNatClampNeg)]) (S := []) X hwX10_joined klL_72 hiX10_joined hsX10_joined (ci := 10) ⟨rfl, rfl⟩ ⟨Nat.le_of_ble_eq_true rfl, Nat.le_of_ble_eq_true rfl⟩ ⟨Nat.le_refl _, Nat.le_refl _⟩ rfl (Nat.le_of_ble_eq_true rfl) dL_law_485 rfl (mX10_joined (l := l) (D := D) (cI := cI) (cZ := cZ) hf1).1 (mX10_joined hf1).2 ?_
        refine ev_aload_n (pc := 488) X 2 dL_law_488 rfl rfl ?_
        refine ev_aload_n (pc := 489) X 0 dL_law_489 rfl rfl ?_
        refine ev_iload_n (pc := 490) X 3 dL_law_490 rfl rfl ?_
        refine ev_iconst (pc := 491) (v := (1 : Int32)) X dL_law_491 rfl ?_
        refine ev_iadd (pc := 492) X dL_law_492 ?_
        refine ev_sld (pc := 493) X hrb hX hbl hbA i1 dL_law_493 ?_
        refine ev_aload_n (pc := 494) X 0 dL_law_494 rfl rfl ?_
        refine ev_iload_n (pc := 495) X 3 dL_law_495 rfl rfl ?_
        refine ev_iconst (pc := 496) (v := (2 : Int32)) X dL_law_496 rfl ?_
        refine ev_iadd (pc := 497) X dL_law_497 ?_
        refine ev_sld (pc := 498) X hrb hX hbl hbA i2 dL_law_498 ?_
        refine ev_callV_i (pc := 499) (As := [.int (xs (nI j + 1).toNatClampNeg), .int (xs (nI j + 2).toNatClampNeg)]) (S := [.int v]) X hwX11_joined klL_75 hiX11_joined hsX11_joined (ci := 11) ⟨rfl, rfl⟩ ⟨Nat.le_of_ble_eq_true rfl, Nat.le_of_ble_eq_true rfl⟩ ⟨Nat.le_refl _, Nat.le_refl _⟩ rfl (Nat.le_of_ble_eq_true rfl) dL_law_499 rfl (mX11_joined (l := l) (D := D) (cI := cI) (cZ := cZ) hf2).1 (mX11_joined hf2).2 ?_
        exact ev_icmp_eq (pc := 502) X 811 dL_law_502 rfl (fun _ => hnext g2 hR2) (fun hne => absurd rfl hne)
      by_cases hq15 : z = (15 : Int32)
      · refine ev_tableIn (pc := 32) X 507 dL_law_32 (by rw [hq15]; decide) (by rw [hq15]; decide) (by rw [hq15]; rfl) rfl ?_
        obtain ⟨v, g1, g2, hf1, hf2, hR2⟩ := h15 g hR 
        refine ev_aload_n (pc := 507) X 1 dL_law_507 rfl rfl ?_
        refine ev_callV_i (pc := 508) (As := []) (S := []) X hwX10_toWeave klL_76 hiX10_toWeave hsX10_toWeave (ci := 10) ⟨rfl, rfl⟩ ⟨Nat.le_of_ble_eq_true rfl, Nat.le_of_ble_eq_true rfl⟩ ⟨Nat.le_refl _, Nat.le_refl _⟩ rfl (Nat.le_of_ble_eq_true rfl) dL_law_508 rfl (mX10_toWeave (l := l) (D := D) (cI := cI) (cZ := cZ) hf1).1 (mX10_toWeave hf1).2 ?_
        refine ev_aload_n (pc := 511) X 2 dL_law_511 rfl rfl ?_
        refine ev_callV_i (pc := 512) (As := []) (S := [.int v]) X hwX11_toWeave klL_79 hiX11_toWeave hsX11_toWeave (ci := 11) ⟨rfl, rfl⟩ ⟨Nat.le_of_ble_eq_true rfl, Nat.le_of_ble_eq_true rfl⟩ ⟨Nat.le_refl _, Nat.le_refl _⟩ rfl (Nat.le_of_ble_eq_true rfl) dL_law_512 rfl (mX11_toWeave (l := l) (D := D) (cI := cI) (cZ := cZ) hf2).1 (mX11_toWeave hf2).2 ?_
        exact ev_icmp_eq (pc := 515) X 811 dL_law_515 rfl (fun _ => hnext g2 hR2) (fun hne => absurd rfl hne)
      by_cases hq16 : z = (16 : Int32)
      · refine ev_tableIn (pc := 32) X 520 dL_law_32 (by rw [hq16]; decide) (by rw [hq16]; decide) (by rw [hq16]; rfl) rfl ?_
        obtain ⟨v, g1, g2, hf1, hf2, hR2⟩ := h16 g hR (xs (nI j + 1).toNatClampNeg) (xs (nI j + 2).toNatClampNeg)
        refine ev_aload_n (pc := 520) X 1 dL_law_520 rfl rfl ?_
        refine ev_aload_n (pc := 521) X 0 dL_law_521 rfl rfl ?_
        refine ev_iload_n (pc := 522) X 3 dL_law_522 rfl rfl ?_
        refine ev_iconst (pc := 523) (v := (1 : Int32)) X dL_law_523 rfl ?_
        refine ev_iadd (pc := 524) X dL_law_524 ?_
        refine ev_sld (pc := 525) X hrb hX hbl hbA i1 dL_law_525 ?_
        refine ev_aload_n (pc := 526) X 0 dL_law_526 rfl rfl ?_
        refine ev_iload_n (pc := 527) X 3 dL_law_527 rfl rfl ?_
        refine ev_iconst (pc := 528) (v := (2 : Int32)) X dL_law_528 rfl ?_
        refine ev_iadd (pc := 529) X dL_law_529 ?_
        refine ev_sld (pc := 530) X hrb hX hbl hbA i2 dL_law_530 ?_
        refine ev_callV_i (pc := 531) (As := [.int (xs (nI j + 1).toNatClampNeg), .int (xs (nI j + 2).toNatClampNeg)]) (S := []) X hwX10_way klL_80 hiX10_way hsX10_way (ci := 10) ⟨rfl, rfl⟩ ⟨Nat.le_of_ble_eq_true rfl, Nat.le_of_ble_eq_true rfl⟩ ⟨Nat.le_refl _, Nat.le_refl _⟩ rfl (Nat.le_of_ble_eq_true rfl) dL_law_531 rfl (mX10_way (l := l) (D := D) (cI := cI) (cZ := cZ) hf1).1 (mX10_way hf1).2 ?_
        refine ev_aload_n (pc := 534) X 2 dL_law_534 rfl rfl ?_
        refine ev_aload_n (pc := 535) X 0 dL_law_535 rfl rfl ?_
        refine ev_iload_n (pc := 536) X 3 dL_law_536 rfl rfl ?_
        refine ev_iconst (pc := 537) (v := (1 : Int32)) X dL_law_537 rfl ?_
        refine ev_iadd (pc := 538) X dL_law_538 ?_
        refine ev_sld (pc := 539) X hrb hX hbl hbA i1 dL_law_539 ?_
        refine ev_aload_n (pc := 540) X 0 dL_law_540 rfl rfl ?_
        refine ev_iload_n (pc := 541) X 3 dL_law_541 rfl rfl ?_
        refine ev_iconst (pc := 542) (v := (2 : Int32)) X dL_law_542 rfl ?_
        refine ev_iadd (pc := 543) X dL_law_543 ?_
        refine ev_sld (pc := 544) X hrb hX hbl hbA i2 dL_law_544 ?_
        refine ev_callV_i (pc := 545) (As := [.int (xs (nI j + 1).toNatClampNeg), .int (xs (nI j + 2).toNatClampNeg)]) (S := [.int v]) X hwX11_way klL_83 hiX11_way hsX11_way (ci := 11) ⟨rfl, rfl⟩ ⟨Nat.le_of_ble_eq_true rfl, Nat.le_of_ble_eq_true rfl⟩ ⟨Nat.le_refl _, Nat.le_refl _⟩ rfl (Nat.le_of_ble_eq_true rfl) dL_law_545 rfl (mX11_way (l := l) (D := D) (cI := cI) (cZ := cZ) hf2).1 (mX11_way hf2).2 ?_
        exact ev_icmp_eq (pc := 548) X 811 dL_law_548 rfl (fun _ => hnext g2 hR2) (fun hne => absurd rfl hne)
      by_cases hq17 : z = (17 : Int32)
      · refine ev_tableIn (pc := 32) X 553 dL_law_32 (by rw [hq17]; decide) (by rw [hq17]; decide) (by rw [hq17]; rfl) rfl ?_
        obtain ⟨v, g1, g2, hf1, hf2, hR2⟩ := h17 g hR (xs (nI j + 1).toNatClampNeg)
        refine ev_aload_n (pc := 553) X 1 dL_law_553 rfl rfl ?_
        refine ev_aload_n (pc := 554) X 0 dL_law_554 rfl rfl ?_
        refine ev_iload_n (pc := 555) X 3 dL_law_555 rfl rfl ?_
        refine ev_iconst (pc := 556) (v := (1 : Int32)) X dL_law_556 rfl ?_
        refine ev_iadd (pc := 557) X dL_law_557 ?_
        refine ev_sld (pc := 558) X hrb hX hbl hbA i1 dL_law_558 ?_
        refine ev_callV_i (pc := 559) (As := [.int (xs (nI j + 1).toNatClampNeg)]) (S := []) X hwX10_darners klL_84 hiX10_darners hsX10_darners (ci := 10) ⟨rfl, rfl⟩ ⟨Nat.le_of_ble_eq_true rfl, Nat.le_of_ble_eq_true rfl⟩ ⟨Nat.le_refl _, Nat.le_refl _⟩ rfl (Nat.le_of_ble_eq_true rfl) dL_law_559 rfl (mX10_darners (l := l) (D := D) (cI := cI) (cZ := cZ) hf1).1 (mX10_darners hf1).2 ?_
        refine ev_aload_n (pc := 562) X 2 dL_law_562 rfl rfl ?_
        refine ev_aload_n (pc := 563) X 0 dL_law_563 rfl rfl ?_
        refine ev_iload_n (pc := 564) X 3 dL_law_564 rfl rfl ?_
        refine ev_iconst (pc := 565) (v := (1 : Int32)) X dL_law_565 rfl ?_
        refine ev_iadd (pc := 566) X dL_law_566 ?_
        refine ev_sld (pc := 567) X hrb hX hbl hbA i1 dL_law_567 ?_
        refine ev_callV_i (pc := 568) (As := [.int (xs (nI j + 1).toNatClampNeg)]) (S := [.int v]) X hwX11_darners klL_87 hiX11_darners hsX11_darners (ci := 11) ⟨rfl, rfl⟩ ⟨Nat.le_of_ble_eq_true rfl, Nat.le_of_ble_eq_true rfl⟩ ⟨Nat.le_refl _, Nat.le_refl _⟩ rfl (Nat.le_of_ble_eq_true rfl) dL_law_568 rfl (mX11_darners (l := l) (D := D) (cI := cI) (cZ := cZ) hf2).1 (mX11_darners hf2).2 ?_
        exact ev_icmp_eq (pc := 571) X 811 dL_law_571 rfl (fun _ => hnext g2 hR2) (fun hne => absurd rfl hne)
      by_cases hq18 : z = (18 : Int32)
      · refine ev_tableIn (pc := 32) X 576 dL_law_32 (by rw [hq18]; decide) (by rw [hq18]; decide) (by rw [hq18]; rfl) rfl ?_
        obtain ⟨v, g1, g2, hf1, hf2, hR2⟩ := h18 g hR (xs (nI j + 1).toNatClampNeg) (xs (nI j + 2).toNatClampNeg) (xs (nI j + 3).toNatClampNeg)
        refine ev_aload_n (pc := 576) X 1 dL_law_576 rfl rfl ?_
        refine ev_aload_n (pc := 577) X 0 dL_law_577 rfl rfl ?_
        refine ev_iload_n (pc := 578) X 3 dL_law_578 rfl rfl ?_
        refine ev_iconst (pc := 579) (v := (1 : Int32)) X dL_law_579 rfl ?_
        refine ev_iadd (pc := 580) X dL_law_580 ?_
        refine ev_sld (pc := 581) X hrb hX hbl hbA i1 dL_law_581 ?_
        refine ev_aload_n (pc := 582) X 0 dL_law_582 rfl rfl ?_
        refine ev_iload_n (pc := 583) X 3 dL_law_583 rfl rfl ?_
        refine ev_iconst (pc := 584) (v := (2 : Int32)) X dL_law_584 rfl ?_
        refine ev_iadd (pc := 585) X dL_law_585 ?_
        refine ev_sld (pc := 586) X hrb hX hbl hbA i2 dL_law_586 ?_
        refine ev_aload_n (pc := 587) X 0 dL_law_587 rfl rfl ?_
        refine ev_iload_n (pc := 588) X 3 dL_law_588 rfl rfl ?_
        refine ev_iconst (pc := 589) (v := (3 : Int32)) X dL_law_589 rfl ?_
        refine ev_iadd (pc := 590) X dL_law_590 ?_
        refine ev_sld (pc := 591) X hrb hX hbl hbA i3 dL_law_591 ?_
        refine ev_callV_i (pc := 592) (As := [.int (xs (nI j + 1).toNatClampNeg), .int (xs (nI j + 2).toNatClampNeg), .int (xs (nI j + 3).toNatClampNeg)]) (S := []) X hwX10_odds klL_88 hiX10_odds hsX10_odds (ci := 10) ⟨rfl, rfl⟩ ⟨Nat.le_of_ble_eq_true rfl, Nat.le_of_ble_eq_true rfl⟩ ⟨Nat.le_refl _, Nat.le_refl _⟩ rfl (Nat.le_of_ble_eq_true rfl) dL_law_592 rfl (mX10_odds (l := l) (D := D) (cI := cI) (cZ := cZ) hf1).1 (mX10_odds hf1).2 ?_
        refine ev_aload_n (pc := 595) X 2 dL_law_595 rfl rfl ?_
        refine ev_aload_n (pc := 596) X 0 dL_law_596 rfl rfl ?_
        refine ev_iload_n (pc := 597) X 3 dL_law_597 rfl rfl ?_
        refine ev_iconst (pc := 598) (v := (1 : Int32)) X dL_law_598 rfl ?_
        refine ev_iadd (pc := 599) X dL_law_599 ?_
        refine ev_sld (pc := 600) X hrb hX hbl hbA i1 dL_law_600 ?_
        refine ev_aload_n (pc := 601) X 0 dL_law_601 rfl rfl ?_
        refine ev_iload_n (pc := 602) X 3 dL_law_602 rfl rfl ?_
        refine ev_iconst (pc := 603) (v := (2 : Int32)) X dL_law_603 rfl ?_
        refine ev_iadd (pc := 604) X dL_law_604 ?_
        refine ev_sld (pc := 605) X hrb hX hbl hbA i2 dL_law_605 ?_
        refine ev_aload_n (pc := 606) X 0 dL_law_606 rfl rfl ?_
        refine ev_iload_n (pc := 607) X 3 dL_law_607 rfl rfl ?_
        refine ev_iconst (pc := 608) (v := (3 : Int32)) X dL_law_608 rfl ?_
        refine ev_iadd (pc := 609) X dL_law_609 ?_
        refine ev_sld (pc := 610) X hrb hX hbl hbA i3 dL_law_610 ?_
        refine ev_callV_i (pc := 611) (As := [.int (xs (nI j + 1).toNatClampNeg), .int (xs (nI j + 2).toNatClampNeg), .int (xs (nI j + 3).toNatClampNeg)]) (S := [.int v]) X hwX11_odds klL_92 hiX11_odds hsX11_odds (ci := 11) ⟨rfl, rfl⟩ ⟨Nat.le_of_ble_eq_true rfl, Nat.le_of_ble_eq_true rfl⟩ ⟨Nat.le_refl _, Nat.le_refl _⟩ rfl (Nat.le_of_ble_eq_true rfl) dL_law_611 rfl (mX11_odds (l := l) (D := D) (cI := cI) (cZ := cZ) hf2).1 (mX11_odds hf2).2 ?_
        exact ev_icmp_eq (pc := 614) X 811 dL_law_614 rfl (fun _ => hnext g2 hR2) (fun hne => absurd rfl hne)
      by_cases hq19 : z = (19 : Int32)
      · refine ev_tableIn (pc := 32) X 619 dL_law_32 (by rw [hq19]; decide) (by rw [hq19]; decide) (by rw [hq19]; rfl) rfl ?_
        obtain ⟨v, g1, g2, hf1, hf2, hR2⟩ := h19 g hR (xs (nI j + 1).toNatClampNeg) (xs (nI j + 2).toNatClampNeg) (xs (nI j + 3).toNatClampNeg)
        refine ev_aload_n (pc := 619) X 1 dL_law_619 rfl rfl ?_
        refine ev_aload_n (pc := 620) X 0 dL_law_620 rfl rfl ?_
        refine ev_iload_n (pc := 621) X 3 dL_law_621 rfl rfl ?_
        refine ev_iconst (pc := 622) (v := (1 : Int32)) X dL_law_622 rfl ?_
        refine ev_iadd (pc := 623) X dL_law_623 ?_
        refine ev_sld (pc := 624) X hrb hX hbl hbA i1 dL_law_624 ?_
        refine ev_aload_n (pc := 625) X 0 dL_law_625 rfl rfl ?_
        refine ev_iload_n (pc := 626) X 3 dL_law_626 rfl rfl ?_
        refine ev_iconst (pc := 627) (v := (2 : Int32)) X dL_law_627 rfl ?_
        refine ev_iadd (pc := 628) X dL_law_628 ?_
        refine ev_sld (pc := 629) X hrb hX hbl hbA i2 dL_law_629 ?_
        refine ev_aload_n (pc := 630) X 0 dL_law_630 rfl rfl ?_
        refine ev_iload_n (pc := 631) X 3 dL_law_631 rfl rfl ?_
        refine ev_iconst (pc := 632) (v := (3 : Int32)) X dL_law_632 rfl ?_
        refine ev_iadd (pc := 633) X dL_law_633 ?_
        refine ev_sld (pc := 634) X hrb hX hbl hbA i3 dL_law_634 ?_
        refine ev_callV_i (pc := 635) (As := [.int (xs (nI j + 1).toNatClampNeg), .int (xs (nI j + 2).toNatClampNeg), .int (xs (nI j + 3).toNatClampNeg)]) (S := []) X hwX10_wrong klL_93 hiX10_wrong hsX10_wrong (ci := 10) ⟨rfl, rfl⟩ ⟨Nat.le_of_ble_eq_true rfl, Nat.le_of_ble_eq_true rfl⟩ ⟨Nat.le_refl _, Nat.le_refl _⟩ rfl (Nat.le_of_ble_eq_true rfl) dL_law_635 rfl (mX10_wrong (l := l) (D := D) (cI := cI) (cZ := cZ) hf1).1 (mX10_wrong hf1).2 ?_
        refine ev_aload_n (pc := 638) X 2 dL_law_638 rfl rfl ?_
        refine ev_aload_n (pc := 639) X 0 dL_law_639 rfl rfl ?_
        refine ev_iload_n (pc := 640) X 3 dL_law_640 rfl rfl ?_
        refine ev_iconst (pc := 641) (v := (1 : Int32)) X dL_law_641 rfl ?_
        refine ev_iadd (pc := 642) X dL_law_642 ?_
        refine ev_sld (pc := 643) X hrb hX hbl hbA i1 dL_law_643 ?_
        refine ev_aload_n (pc := 644) X 0 dL_law_644 rfl rfl ?_
        refine ev_iload_n (pc := 645) X 3 dL_law_645 rfl rfl ?_
        refine ev_iconst (pc := 646) (v := (2 : Int32)) X dL_law_646 rfl ?_
        refine ev_iadd (pc := 647) X dL_law_647 ?_
        refine ev_sld (pc := 648) X hrb hX hbl hbA i2 dL_law_648 ?_
        refine ev_aload_n (pc := 649) X 0 dL_law_649 rfl rfl ?_
        refine ev_iload_n (pc := 650) X 3 dL_law_650 rfl rfl ?_
        refine ev_iconst (pc := 651) (v := (3 : Int32)) X dL_law_651 rfl ?_
        refine ev_iadd (pc := 652) X dL_law_652 ?_
        refine ev_sld (pc := 653) X hrb hX hbl hbA i3 dL_law_653 ?_
        refine ev_callV_i (pc := 654) (As := [.int (xs (nI j + 1).toNatClampNeg), .int (xs (nI j + 2).toNatClampNeg), .int (xs (nI j + 3).toNatClampNeg)]) (S := [.int v]) X hwX11_wrong klL_96 hiX11_wrong hsX11_wrong (ci := 11) ⟨rfl, rfl⟩ ⟨Nat.le_of_ble_eq_true rfl, Nat.le_of_ble_eq_true rfl⟩ ⟨Nat.le_refl _, Nat.le_refl _⟩ rfl (Nat.le_of_ble_eq_true rfl) dL_law_654 rfl (mX11_wrong (l := l) (D := D) (cI := cI) (cZ := cZ) hf2).1 (mX11_wrong hf2).2 ?_
        exact ev_icmp_eq (pc := 657) X 811 dL_law_657 rfl (fun _ => hnext g2 hR2) (fun hne => absurd rfl hne)
      by_cases hq20 : z = (20 : Int32)
      · refine ev_tableIn (pc := 32) X 662 dL_law_32 (by rw [hq20]; decide) (by rw [hq20]; decide) (by rw [hq20]; rfl) rfl ?_
        obtain ⟨v, g1, g2, hf1, hf2, hR2⟩ := h20 g hR (xs (nI j + 1).toNatClampNeg) (xs (nI j + 2).toNatClampNeg)
        refine ev_aload_n (pc := 662) X 1 dL_law_662 rfl rfl ?_
        refine ev_aload_n (pc := 663) X 0 dL_law_663 rfl rfl ?_
        refine ev_iload_n (pc := 664) X 3 dL_law_664 rfl rfl ?_
        refine ev_iconst (pc := 665) (v := (1 : Int32)) X dL_law_665 rfl ?_
        refine ev_iadd (pc := 666) X dL_law_666 ?_
        refine ev_sld (pc := 667) X hrb hX hbl hbA i1 dL_law_667 ?_
        refine ev_aload_n (pc := 668) X 0 dL_law_668 rfl rfl ?_
        refine ev_iload_n (pc := 669) X 3 dL_law_669 rfl rfl ?_
        refine ev_iconst (pc := 670) (v := (2 : Int32)) X dL_law_670 rfl ?_
        refine ev_iadd (pc := 671) X dL_law_671 ?_
        refine ev_sld (pc := 672) X hrb hX hbl hbA i2 dL_law_672 ?_
        refine ev_callV_i (pc := 673) (As := [.int (xs (nI j + 1).toNatClampNeg), .int (xs (nI j + 2).toNatClampNeg)]) (S := []) X hwX10_look klL_97 hiX10_look hsX10_look (ci := 10) ⟨rfl, rfl⟩ ⟨Nat.le_of_ble_eq_true rfl, Nat.le_of_ble_eq_true rfl⟩ ⟨Nat.le_refl _, Nat.le_refl _⟩ rfl (Nat.le_of_ble_eq_true rfl) dL_law_673 rfl (mX10_look (l := l) (D := D) (cI := cI) (cZ := cZ) hf1).1 (mX10_look hf1).2 ?_
        refine ev_aload_n (pc := 676) X 2 dL_law_676 rfl rfl ?_
        refine ev_aload_n (pc := 677) X 0 dL_law_677 rfl rfl ?_
        refine ev_iload_n (pc := 678) X 3 dL_law_678 rfl rfl ?_
        refine ev_iconst (pc := 679) (v := (1 : Int32)) X dL_law_679 rfl ?_
        refine ev_iadd (pc := 680) X dL_law_680 ?_
        refine ev_sld (pc := 681) X hrb hX hbl hbA i1 dL_law_681 ?_
        refine ev_aload_n (pc := 682) X 0 dL_law_682 rfl rfl ?_
        refine ev_iload_n (pc := 683) X 3 dL_law_683 rfl rfl ?_
        refine ev_iconst (pc := 684) (v := (2 : Int32)) X dL_law_684 rfl ?_
        refine ev_iadd (pc := 685) X dL_law_685 ?_
        refine ev_sld (pc := 686) X hrb hX hbl hbA i2 dL_law_686 ?_
        refine ev_callV_i (pc := 687) (As := [.int (xs (nI j + 1).toNatClampNeg), .int (xs (nI j + 2).toNatClampNeg)]) (S := [.int v]) X hwX11_look klL_100 hiX11_look hsX11_look (ci := 11) ⟨rfl, rfl⟩ ⟨Nat.le_of_ble_eq_true rfl, Nat.le_of_ble_eq_true rfl⟩ ⟨Nat.le_refl _, Nat.le_refl _⟩ rfl (Nat.le_of_ble_eq_true rfl) dL_law_687 rfl (mX11_look (l := l) (D := D) (cI := cI) (cZ := cZ) hf2).1 (mX11_look hf2).2 ?_
        exact ev_icmp_eq (pc := 690) X 811 dL_law_690 rfl (fun _ => hnext g2 hR2) (fun hne => absurd rfl hne)
      by_cases hq21 : z = (21 : Int32)
      · refine ev_tableIn (pc := 32) X 695 dL_law_32 (by rw [hq21]; decide) (by rw [hq21]; decide) (by rw [hq21]; rfl) rfl ?_
        obtain ⟨v, g1, g2, hf1, hf2, hR2⟩ := h21 g hR (xs (nI j + 1).toNatClampNeg) (xs (nI j + 2).toNatClampNeg)
        refine ev_aload_n (pc := 695) X 1 dL_law_695 rfl rfl ?_
        refine ev_aload_n (pc := 696) X 0 dL_law_696 rfl rfl ?_
        refine ev_iload_n (pc := 697) X 3 dL_law_697 rfl rfl ?_
        refine ev_iconst (pc := 698) (v := (1 : Int32)) X dL_law_698 rfl ?_
        refine ev_iadd (pc := 699) X dL_law_699 ?_
        refine ev_sld (pc := 700) X hrb hX hbl hbA i1 dL_law_700 ?_
        refine ev_aload_n (pc := 701) X 0 dL_law_701 rfl rfl ?_
        refine ev_iload_n (pc := 702) X 3 dL_law_702 rfl rfl ?_
        refine ev_iconst (pc := 703) (v := (2 : Int32)) X dL_law_703 rfl ?_
        refine ev_iadd (pc := 704) X dL_law_704 ?_
        refine ev_sld (pc := 705) X hrb hX hbl hbA i2 dL_law_705 ?_
        refine ev_callV_i (pc := 706) (As := [.int (xs (nI j + 1).toNatClampNeg), .int (xs (nI j + 2).toNatClampNeg)]) (S := []) X hwX10_rate klL_101 hiX10_rate hsX10_rate (ci := 10) ⟨rfl, rfl⟩ ⟨Nat.le_of_ble_eq_true rfl, Nat.le_of_ble_eq_true rfl⟩ ⟨Nat.le_refl _, Nat.le_refl _⟩ rfl (Nat.le_of_ble_eq_true rfl) dL_law_706 rfl (mX10_rate (l := l) (D := D) (cI := cI) (cZ := cZ) hf1).1 (mX10_rate hf1).2 ?_
        refine ev_aload_n (pc := 709) X 2 dL_law_709 rfl rfl ?_
        refine ev_aload_n (pc := 710) X 0 dL_law_710 rfl rfl ?_
        refine ev_iload_n (pc := 711) X 3 dL_law_711 rfl rfl ?_
        refine ev_iconst (pc := 712) (v := (1 : Int32)) X dL_law_712 rfl ?_
        refine ev_iadd (pc := 713) X dL_law_713 ?_
        refine ev_sld (pc := 714) X hrb hX hbl hbA i1 dL_law_714 ?_
        refine ev_aload_n (pc := 715) X 0 dL_law_715 rfl rfl ?_
        refine ev_iload_n (pc := 716) X 3 dL_law_716 rfl rfl ?_
        refine ev_iconst (pc := 717) (v := (2 : Int32)) X dL_law_717 rfl ?_
        refine ev_iadd (pc := 718) X dL_law_718 ?_
        refine ev_sld (pc := 719) X hrb hX hbl hbA i2 dL_law_719 ?_
        refine ev_callV_i (pc := 720) (As := [.int (xs (nI j + 1).toNatClampNeg), .int (xs (nI j + 2).toNatClampNeg)]) (S := [.int v]) X hwX11_rate klL_104 hiX11_rate hsX11_rate (ci := 11) ⟨rfl, rfl⟩ ⟨Nat.le_of_ble_eq_true rfl, Nat.le_of_ble_eq_true rfl⟩ ⟨Nat.le_refl _, Nat.le_refl _⟩ rfl (Nat.le_of_ble_eq_true rfl) dL_law_720 rfl (mX11_rate (l := l) (D := D) (cI := cI) (cZ := cZ) hf2).1 (mX11_rate hf2).2 ?_
        exact ev_icmp_eq (pc := 723) X 811 dL_law_723 rfl (fun _ => hnext g2 hR2) (fun hne => absurd rfl hne)
      by_cases hq22 : z = (22 : Int32)
      · refine ev_tableIn (pc := 32) X 728 dL_law_32 (by rw [hq22]; decide) (by rw [hq22]; decide) (by rw [hq22]; rfl) rfl ?_
        obtain ⟨v, g1, g2, hf1, hf2, hR2⟩ := h22 g hR (xs (nI j + 1).toNatClampNeg)
        refine ev_aload_n (pc := 728) X 1 dL_law_728 rfl rfl ?_
        refine ev_aload_n (pc := 729) X 0 dL_law_729 rfl rfl ?_
        refine ev_iload_n (pc := 730) X 3 dL_law_730 rfl rfl ?_
        refine ev_iconst (pc := 731) (v := (1 : Int32)) X dL_law_731 rfl ?_
        refine ev_iadd (pc := 732) X dL_law_732 ?_
        refine ev_sld (pc := 733) X hrb hX hbl hbA i1 dL_law_733 ?_
        refine ev_callV_i (pc := 734) (As := [.int (xs (nI j + 1).toNatClampNeg)]) (S := []) X hwX10_keep klL_105 hiX10_keep hsX10_keep (ci := 10) ⟨rfl, rfl⟩ ⟨Nat.le_of_ble_eq_true rfl, Nat.le_of_ble_eq_true rfl⟩ ⟨Nat.le_refl _, Nat.le_refl _⟩ rfl (Nat.le_of_ble_eq_true rfl) dL_law_734 rfl (mX10_keep (l := l) (D := D) (cI := cI) (cZ := cZ) hf1).1 (mX10_keep hf1).2 ?_
        refine ev_aload_n (pc := 737) X 2 dL_law_737 rfl rfl ?_
        refine ev_aload_n (pc := 738) X 0 dL_law_738 rfl rfl ?_
        refine ev_iload_n (pc := 739) X 3 dL_law_739 rfl rfl ?_
        refine ev_iconst (pc := 740) (v := (1 : Int32)) X dL_law_740 rfl ?_
        refine ev_iadd (pc := 741) X dL_law_741 ?_
        refine ev_sld (pc := 742) X hrb hX hbl hbA i1 dL_law_742 ?_
        refine ev_callV_i (pc := 743) (As := [.int (xs (nI j + 1).toNatClampNeg)]) (S := [.int v]) X hwX11_keep klL_108 hiX11_keep hsX11_keep (ci := 11) ⟨rfl, rfl⟩ ⟨Nat.le_of_ble_eq_true rfl, Nat.le_of_ble_eq_true rfl⟩ ⟨Nat.le_refl _, Nat.le_refl _⟩ rfl (Nat.le_of_ble_eq_true rfl) dL_law_743 rfl (mX11_keep (l := l) (D := D) (cI := cI) (cZ := cZ) hf2).1 (mX11_keep hf2).2 ?_
        exact ev_icmp_eq (pc := 746) X 811 dL_law_746 rfl (fun _ => hnext g2 hR2) (fun hne => absurd rfl hne)
      by_cases hq23 : z = (23 : Int32)
      · refine ev_tableIn (pc := 32) X 751 dL_law_32 (by rw [hq23]; decide) (by rw [hq23]; decide) (by rw [hq23]; rfl) rfl ?_
        obtain ⟨v, g1, g2, hf1, hf2, hR2⟩ := h23 g hR (xs (nI j + 1).toNatClampNeg)
        refine ev_aload_n (pc := 751) X 1 dL_law_751 rfl rfl ?_
        refine ev_aload_n (pc := 752) X 0 dL_law_752 rfl rfl ?_
        refine ev_iload_n (pc := 753) X 3 dL_law_753 rfl rfl ?_
        refine ev_iconst (pc := 754) (v := (1 : Int32)) X dL_law_754 rfl ?_
        refine ev_iadd (pc := 755) X dL_law_755 ?_
        refine ev_sld (pc := 756) X hrb hX hbl hbA i1 dL_law_756 ?_
        refine ev_callV_i (pc := 757) (As := [.int (xs (nI j + 1).toNatClampNeg)]) (S := []) X hwX10_back klL_109 hiX10_back hsX10_back (ci := 10) ⟨rfl, rfl⟩ ⟨Nat.le_of_ble_eq_true rfl, Nat.le_of_ble_eq_true rfl⟩ ⟨Nat.le_refl _, Nat.le_refl _⟩ rfl (Nat.le_of_ble_eq_true rfl) dL_law_757 rfl (mX10_back (l := l) (D := D) (cI := cI) (cZ := cZ) hf1).1 (mX10_back hf1).2 ?_
        refine ev_aload_n (pc := 760) X 2 dL_law_760 rfl rfl ?_
        refine ev_aload_n (pc := 761) X 0 dL_law_761 rfl rfl ?_
        refine ev_iload_n (pc := 762) X 3 dL_law_762 rfl rfl ?_
        refine ev_iconst (pc := 763) (v := (1 : Int32)) X dL_law_763 rfl ?_
        refine ev_iadd (pc := 764) X dL_law_764 ?_
        refine ev_sld (pc := 765) X hrb hX hbl hbA i1 dL_law_765 ?_
        refine ev_callV_i (pc := 766) (As := [.int (xs (nI j + 1).toNatClampNeg)]) (S := [.int v]) X hwX11_back klL_112 hiX11_back hsX11_back (ci := 11) ⟨rfl, rfl⟩ ⟨Nat.le_of_ble_eq_true rfl, Nat.le_of_ble_eq_true rfl⟩ ⟨Nat.le_refl _, Nat.le_refl _⟩ rfl (Nat.le_of_ble_eq_true rfl) dL_law_766 rfl (mX11_back (l := l) (D := D) (cI := cI) (cZ := cZ) hf2).1 (mX11_back hf2).2 ?_
        exact ev_icmp_eq (pc := 769) X 811 dL_law_769 rfl (fun _ => hnext g2 hR2) (fun hne => absurd rfl hne)
      by_cases hq24 : z = (24 : Int32)
      · refine ev_tableIn (pc := 32) X 774 dL_law_32 (by rw [hq24]; decide) (by rw [hq24]; decide) (by rw [hq24]; rfl) rfl ?_
        obtain ⟨v, g1, g2, hf1, hf2, hR2⟩ := h24 g hR (xs (nI j + 1).toNatClampNeg)
        refine ev_aload_n (pc := 774) X 1 dL_law_774 rfl rfl ?_
        refine ev_aload_n (pc := 775) X 0 dL_law_775 rfl rfl ?_
        refine ev_iload_n (pc := 776) X 3 dL_law_776 rfl rfl ?_
        refine ev_iconst (pc := 777) (v := (1 : Int32)) X dL_law_777 rfl ?_
        refine ev_iadd (pc := 778) X dL_law_778 ?_
        refine ev_sld (pc := 779) X hrb hX hbl hbA i1 dL_law_779 ?_
        refine ev_callV_i (pc := 780) (As := [.int (xs (nI j + 1).toNatClampNeg)]) (S := []) X hwX10_count klL_113 hiX10_count hsX10_count (ci := 10) ⟨rfl, rfl⟩ ⟨Nat.le_of_ble_eq_true rfl, Nat.le_of_ble_eq_true rfl⟩ ⟨Nat.le_refl _, Nat.le_refl _⟩ rfl (Nat.le_of_ble_eq_true rfl) dL_law_780 rfl (mX10_count (l := l) (D := D) (cI := cI) (cZ := cZ) hf1).1 (mX10_count hf1).2 ?_
        refine ev_aload_n (pc := 783) X 2 dL_law_783 rfl rfl ?_
        refine ev_aload_n (pc := 784) X 0 dL_law_784 rfl rfl ?_
        refine ev_iload_n (pc := 785) X 3 dL_law_785 rfl rfl ?_
        refine ev_iconst (pc := 786) (v := (1 : Int32)) X dL_law_786 rfl ?_
        refine ev_iadd (pc := 787) X dL_law_787 ?_
        refine ev_sld (pc := 788) X hrb hX hbl hbA i1 dL_law_788 ?_
        refine ev_callV_i (pc := 789) (As := [.int (xs (nI j + 1).toNatClampNeg)]) (S := [.int v]) X hwX11_count klL_116 hiX11_count hsX11_count (ci := 11) ⟨rfl, rfl⟩ ⟨Nat.le_of_ble_eq_true rfl, Nat.le_of_ble_eq_true rfl⟩ ⟨Nat.le_refl _, Nat.le_refl _⟩ rfl (Nat.le_of_ble_eq_true rfl) dL_law_789 rfl (mX11_count (l := l) (D := D) (cI := cI) (cZ := cZ) hf2).1 (mX11_count hf2).2 ?_
        exact ev_icmp_eq (pc := 792) X 811 dL_law_792 rfl (fun _ => hnext g2 hR2) (fun hne => absurd rfl hne)
      by_cases hq25 : z = (25 : Int32)
      · refine ev_tableIn (pc := 32) X 797 dL_law_32 (by rw [hq25]; decide) (by rw [hq25]; decide) (by rw [hq25]; rfl) rfl ?_
        obtain ⟨v, g1, g2, hf1, hf2, hR2⟩ := h25 g hR 
        refine ev_aload_n (pc := 797) X 1 dL_law_797 rfl rfl ?_
        refine ev_callV_l (pc := 798) (As := []) (S := []) X hwX10_trace klL_117 hiX10_trace hsX10_trace (ci := 10) ⟨rfl, rfl⟩ ⟨Nat.le_of_ble_eq_true rfl, Nat.le_of_ble_eq_true rfl⟩ ⟨Nat.le_refl _, Nat.le_refl _⟩ rfl (Nat.le_of_ble_eq_true rfl) dL_law_798 rfl (mX10_trace (l := l) (D := D) (cI := cI) (cZ := cZ) hf1).1 (mX10_trace hf1).2 ?_
        refine ev_aload_n (pc := 801) X 2 dL_law_801 rfl rfl ?_
        refine ev_callV_l (pc := 802) (As := []) (S := [.long v]) X hwX11_trace klL_121 hiX11_trace hsX11_trace (ci := 11) ⟨rfl, rfl⟩ ⟨Nat.le_of_ble_eq_true rfl, Nat.le_of_ble_eq_true rfl⟩ ⟨Nat.le_refl _, Nat.le_refl _⟩ rfl (Nat.le_of_ble_eq_true rfl) dL_law_802 rfl (mX11_trace (l := l) (D := D) (cI := cI) (cZ := cZ) hf2).1 (mX11_trace hf2).2 ?_
        refine ev_lcmp0 (pc := 805) X dL_law_805 ?_
        exact ev_if_eq (pc := 806) X 811 dL_law_806 rfl (fun _ => hnext g2 hR2) (fun hne => absurd rfl hne)
      refine ev_tableOut (pc := 32) X 811 dL_law_32 (by have a0 := lv_neT hq0 (a := 0) (by decide); have a1 := lv_neT hq1 (a := 1) (by decide); have a2 := lv_neT hq2 (a := 2) (by decide); have a3 := lv_neT hq3 (a := 3) (by decide); have a4 := lv_neT hq4 (a := 4) (by decide); have a5 := lv_neT hq5 (a := 5) (by decide); have a6 := lv_neT hq6 (a := 6) (by decide); have a7 := lv_neT hq7 (a := 7) (by decide); have a8 := lv_neT hq8 (a := 8) (by decide); have a9 := lv_neT hq9 (a := 9) (by decide); have a10 := lv_neT hq10 (a := 10) (by decide); have a11 := lv_neT hq11 (a := 11) (by decide); have a12 := lv_neT hq12 (a := 12) (by decide); have a13 := lv_neT hq13 (a := 13) (by decide); have a14 := lv_neT hq14 (a := 14) (by decide); have a15 := lv_neT hq15 (a := 15) (by decide); have a16 := lv_neT hq16 (a := 16) (by decide); have a17 := lv_neT hq17 (a := 17) (by decide); have a18 := lv_neT hq18 (a := 18) (by decide); have a19 := lv_neT hq19 (a := 19) (by decide); have a20 := lv_neT hq20 (a := 20) (by decide); have a21 := lv_neT hq21 (a := 21) (by decide); have a22 := lv_neT hq22 (a := 22) (by decide); have a23 := lv_neT hq23 (a := 23) (by decide); have a24 := lv_neT hq24 (a := 24) (by decide); have a25 := lv_neT hq25 (a := 25) (by decide); omega) rfl ?_
      exact hnext g hR
end LAW
