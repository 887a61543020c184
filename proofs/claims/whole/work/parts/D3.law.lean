/-! the law: its loop, case by case -/
section LawA
theorem dL_law_0 : decode cL_law 0 = .ok (.new 8, 3) := by decide +kernel
theorem dL_law_3 : decode cL_law 3 = .ok (.dup, 1) := by decide +kernel
theorem dL_law_4 : decode cL_law 4 = .ok (.invokespecial 19, 3) := by decide +kernel
theorem dL_law_7 : decode cL_law 7 = .ok (.astore_n 1, 1) := by decide +kernel
theorem dL_law_8 : decode cL_law 8 = .ok (.new 20, 3) := by decide +kernel
theorem dL_law_11 : decode cL_law 11 = .ok (.dup, 1) := by decide +kernel
theorem dL_law_12 : decode cL_law 12 = .ok (.invokespecial 22, 3) := by decide +kernel
theorem dL_law_15 : decode cL_law 15 = .ok (.astore_n 2, 1) := by decide +kernel
theorem dL_law_16 : decode cL_law 16 = .ok (.iconst 1, 1) := by decide +kernel
theorem dL_law_17 : decode cL_law 17 = .ok (.newarray .long, 2) := by decide +kernel
theorem dL_law_19 : decode cL_law 19 = .ok (.astore_n 3, 1) := by decide +kernel
theorem dL_law_20 : decode cL_law 20 = .ok (.iconst 0, 1) := by decide +kernel
theorem dL_law_21 : decode cL_law 21 = .ok (.istore 4, 2) := by decide +kernel
theorem dL_law_23 : decode cL_law 23 = .ok (.iload 4, 2) := by decide +kernel
theorem dL_law_25 : decode cL_law 25 = .ok (.aload_n 0, 1) := by decide +kernel
theorem dL_law_26 : decode cL_law 26 = .ok (.arraylength, 1) := by decide +kernel
theorem dL_law_27 : decode cL_law 27 = .ok (.bipush 6, 2) := by decide +kernel
theorem dL_law_29 : decode cL_law 29 = .ok (.isub, 1) := by decide +kernel
theorem dL_law_30 : decode cL_law 30 = .ok (.if_icmp .gt 1157, 3) := by decide +kernel
theorem dL_law_33 : decode cL_law 33 = .ok (.aload_n 0, 1) := by decide +kernel
theorem dL_law_34 : decode cL_law 34 = .ok (.iload 4, 2) := by decide +kernel
theorem dL_law_36 : decode cL_law 36 = .ok (.iaload, 1) := by decide +kernel
theorem dL_law_37 : decode cL_law 37 = .ok (.bipush 31, 2) := by decide +kernel
theorem dL_law_39 : decode cL_law 39 = .ok (.iand, 1) := by decide +kernel
theorem dL_law_40 : decode cL_law 40 = .ok (.tableswitch 1141 0 26 #[124, 197, 222, 247, 260, 297, 334, 371, 448, 485, 534, 583, 639, 676, 725, 774, 811, 848, 873, 898, 923, 948, 973, 1041, 1054, 1091, 1116], 124) := by decide +kernel
theorem dL_law_164 : decode cL_law 164 = .ok (.aload_n 1, 1) := by decide +kernel
theorem dL_law_165 : decode cL_law 165 = .ok (.aload_n 0, 1) := by decide +kernel
theorem dL_law_166 : decode cL_law 166 = .ok (.iload 4, 2) := by decide +kernel
theorem dL_law_168 : decode cL_law 168 = .ok (.iconst 1, 1) := by decide +kernel
theorem dL_law_169 : decode cL_law 169 = .ok (.iadd, 1) := by decide +kernel
theorem dL_law_170 : decode cL_law 170 = .ok (.iaload, 1) := by decide +kernel
theorem dL_law_171 : decode cL_law 171 = .ok (.aload_n 0, 1) := by decide +kernel
theorem dL_law_172 : decode cL_law 172 = .ok (.iload 4, 2) := by decide +kernel
theorem dL_law_174 : decode cL_law 174 = .ok (.iconst 2, 1) := by decide +kernel
theorem dL_law_175 : decode cL_law 175 = .ok (.iadd, 1) := by decide +kernel
theorem dL_law_176 : decode cL_law 176 = .ok (.iaload, 1) := by decide +kernel
theorem dL_law_177 : decode cL_law 177 = .ok (.aload_n 0, 1) := by decide +kernel
theorem dL_law_178 : decode cL_law 178 = .ok (.iload 4, 2) := by decide +kernel
theorem dL_law_180 : decode cL_law 180 = .ok (.iconst 3, 1) := by decide +kernel
theorem dL_law_181 : decode cL_law 181 = .ok (.iadd, 1) := by decide +kernel
theorem dL_law_182 : decode cL_law 182 = .ok (.iaload, 1) := by decide +kernel
theorem dL_law_183 : decode cL_law 183 = .ok (.aload_n 0, 1) := by decide +kernel
theorem dL_law_184 : decode cL_law 184 = .ok (.iload 4, 2) := by decide +kernel
theorem dL_law_186 : decode cL_law 186 = .ok (.iconst 4, 1) := by decide +kernel
theorem dL_law_187 : decode cL_law 187 = .ok (.iadd, 1) := by decide +kernel
theorem dL_law_188 : decode cL_law 188 = .ok (.iaload, 1) := by decide +kernel
theorem dL_law_189 : decode cL_law 189 = .ok (.aload_n 0, 1) := by decide +kernel
theorem dL_law_190 : decode cL_law 190 = .ok (.iload 4, 2) := by decide +kernel
theorem dL_law_192 : decode cL_law 192 = .ok (.iconst 5, 1) := by decide +kernel
theorem dL_law_193 : decode cL_law 193 = .ok (.iadd, 1) := by decide +kernel
theorem dL_law_194 : decode cL_law 194 = .ok (.iaload, 1) := by decide +kernel
theorem dL_law_195 : decode cL_law 195 = .ok (.invokevirtual 23, 3) := by decide +kernel
theorem dL_law_198 : decode cL_law 198 = .ok (.aload_n 2, 1) := by decide +kernel
theorem dL_law_199 : decode cL_law 199 = .ok (.aload_n 0, 1) := by decide +kernel
theorem dL_law_200 : decode cL_law 200 = .ok (.iload 4, 2) := by decide +kernel
theorem dL_law_202 : decode cL_law 202 = .ok (.iconst 1, 1) := by decide +kernel
theorem dL_law_203 : decode cL_law 203 = .ok (.iadd, 1) := by decide +kernel
theorem dL_law_204 : decode cL_law 204 = .ok (.iaload, 1) := by decide +kernel
theorem dL_law_205 : decode cL_law 205 = .ok (.aload_n 0, 1) := by decide +kernel
theorem dL_law_206 : decode cL_law 206 = .ok (.iload 4, 2) := by decide +kernel
theorem dL_law_208 : decode cL_law 208 = .ok (.iconst 2, 1) := by decide +kernel
theorem dL_law_209 : decode cL_law 209 = .ok (.iadd, 1) := by decide +kernel
theorem dL_law_210 : decode cL_law 210 = .ok (.iaload, 1) := by decide +kernel
theorem dL_law_211 : decode cL_law 211 = .ok (.aload_n 0, 1) := by decide +kernel
theorem dL_law_212 : decode cL_law 212 = .ok (.iload 4, 2) := by decide +kernel
theorem dL_law_214 : decode cL_law 214 = .ok (.iconst 3, 1) := by decide +kernel
theorem dL_law_215 : decode cL_law 215 = .ok (.iadd, 1) := by decide +kernel
theorem dL_law_216 : decode cL_law 216 = .ok (.iaload, 1) := by decide +kernel
theorem dL_law_217 : decode cL_law 217 = .ok (.aload_n 0, 1) := by decide +kernel
theorem dL_law_218 : decode cL_law 218 = .ok (.iload 4, 2) := by decide +kernel
theorem dL_law_220 : decode cL_law 220 = .ok (.iconst 4, 1) := by decide +kernel
theorem dL_law_221 : decode cL_law 221 = .ok (.iadd, 1) := by decide +kernel
theorem dL_law_222 : decode cL_law 222 = .ok (.iaload, 1) := by decide +kernel
theorem dL_law_223 : decode cL_law 223 = .ok (.aload_n 0, 1) := by decide +kernel
theorem dL_law_224 : decode cL_law 224 = .ok (.iload 4, 2) := by decide +kernel
theorem dL_law_226 : decode cL_law 226 = .ok (.iconst 5, 1) := by decide +kernel
theorem dL_law_227 : decode cL_law 227 = .ok (.iadd, 1) := by decide +kernel
theorem dL_law_228 : decode cL_law 228 = .ok (.iaload, 1) := by decide +kernel
theorem dL_law_229 : decode cL_law 229 = .ok (.invokevirtual 27, 3) := by decide +kernel
theorem dL_law_232 : decode cL_law 232 = .ok (.if_icmp .eq 949, 3) := by decide +kernel
theorem dL_law_235 : decode cL_law 235 = .ok (.iconst 0, 1) := by decide +kernel
theorem dL_law_236 : decode cL_law 236 = .ok (.ireturn, 1) := by decide +kernel
theorem dL_law_237 : decode cL_law 237 = .ok (.aload_n 1, 1) := by decide +kernel
theorem dL_law_238 : decode cL_law 238 = .ok (.aload_n 0, 1) := by decide +kernel
theorem dL_law_239 : decode cL_law 239 = .ok (.iload 4, 2) := by decide +kernel
theorem dL_law_241 : decode cL_law 241 = .ok (.iconst 1, 1) := by decide +kernel
theorem dL_law_242 : decode cL_law 242 = .ok (.iadd, 1) := by decide +kernel
theorem dL_law_243 : decode cL_law 243 = .ok (.iaload, 1) := by decide +kernel
theorem dL_law_244 : decode cL_law 244 = .ok (.invokevirtual 28, 3) := by decide +kernel
theorem dL_law_247 : decode cL_law 247 = .ok (.aload_n 2, 1) := by decide +kernel
theorem dL_law_248 : decode cL_law 248 = .ok (.aload_n 0, 1) := by decide +kernel
theorem dL_law_249 : decode cL_law 249 = .ok (.iload 4, 2) := by decide +kernel
theorem dL_law_251 : decode cL_law 251 = .ok (.iconst 1, 1) := by decide +kernel
theorem dL_law_252 : decode cL_law 252 = .ok (.iadd, 1) := by decide +kernel
theorem dL_law_253 : decode cL_law 253 = .ok (.iaload, 1) := by decide +kernel
theorem dL_law_254 : decode cL_law 254 = .ok (.invokevirtual 32, 3) := by decide +kernel
theorem dL_law_257 : decode cL_law 257 = .ok (.if_icmp .eq 924, 3) := by decide +kernel
theorem dL_law_260 : decode cL_law 260 = .ok (.iconst 0, 1) := by decide +kernel
theorem dL_law_261 : decode cL_law 261 = .ok (.ireturn, 1) := by decide +kernel
theorem dL_law_262 : decode cL_law 262 = .ok (.aload_n 1, 1) := by decide +kernel
theorem dL_law_263 : decode cL_law 263 = .ok (.aload_n 0, 1) := by decide +kernel
theorem dL_law_264 : decode cL_law 264 = .ok (.iload 4, 2) := by decide +kernel
theorem dL_law_266 : decode cL_law 266 = .ok (.iconst 1, 1) := by decide +kernel
theorem dL_law_267 : decode cL_law 267 = .ok (.iadd, 1) := by decide +kernel
theorem dL_law_268 : decode cL_law 268 = .ok (.iaload, 1) := by decide +kernel
theorem dL_law_269 : decode cL_law 269 = .ok (.invokevirtual 33, 3) := by decide +kernel
theorem dL_law_272 : decode cL_law 272 = .ok (.aload_n 2, 1) := by decide +kernel
theorem dL_law_273 : decode cL_law 273 = .ok (.aload_n 0, 1) := by decide +kernel
theorem dL_law_274 : decode cL_law 274 = .ok (.iload 4, 2) := by decide +kernel
theorem dL_law_276 : decode cL_law 276 = .ok (.iconst 1, 1) := by decide +kernel
theorem dL_law_277 : decode cL_law 277 = .ok (.iadd, 1) := by decide +kernel
theorem dL_law_278 : decode cL_law 278 = .ok (.iaload, 1) := by decide +kernel
theorem dL_law_279 : decode cL_law 279 = .ok (.invokevirtual 36, 3) := by decide +kernel
theorem dL_law_282 : decode cL_law 282 = .ok (.if_icmp .eq 899, 3) := by decide +kernel
theorem dL_law_285 : decode cL_law 285 = .ok (.iconst 0, 1) := by decide +kernel
theorem dL_law_286 : decode cL_law 286 = .ok (.ireturn, 1) := by decide +kernel
theorem dL_law_287 : decode cL_law 287 = .ok (.aload_n 1, 1) := by decide +kernel
theorem dL_law_288 : decode cL_law 288 = .ok (.invokevirtual 37, 3) := by decide +kernel
theorem dL_law_291 : decode cL_law 291 = .ok (.aload_n 2, 1) := by decide +kernel
theorem dL_law_292 : decode cL_law 292 = .ok (.invokevirtual 41, 3) := by decide +kernel
theorem dL_law_295 : decode cL_law 295 = .ok (.if_icmp .eq 886, 3) := by decide +kernel
theorem dL_law_298 : decode cL_law 298 = .ok (.iconst 0, 1) := by decide +kernel
theorem dL_law_299 : decode cL_law 299 = .ok (.ireturn, 1) := by decide +kernel
theorem dL_law_300 : decode cL_law 300 = .ok (.aload_n 1, 1) := by decide +kernel
theorem dL_law_301 : decode cL_law 301 = .ok (.aload_n 0, 1) := by decide +kernel
theorem dL_law_302 : decode cL_law 302 = .ok (.iload 4, 2) := by decide +kernel
theorem dL_law_304 : decode cL_law 304 = .ok (.iconst 1, 1) := by decide +kernel
theorem dL_law_305 : decode cL_law 305 = .ok (.iadd, 1) := by decide +kernel
theorem dL_law_306 : decode cL_law 306 = .ok (.iaload, 1) := by decide +kernel
theorem dL_law_307 : decode cL_law 307 = .ok (.aload_n 0, 1) := by decide +kernel
theorem dL_law_308 : decode cL_law 308 = .ok (.iload 4, 2) := by decide +kernel
theorem dL_law_310 : decode cL_law 310 = .ok (.iconst 2, 1) := by decide +kernel
theorem dL_law_311 : decode cL_law 311 = .ok (.iadd, 1) := by decide +kernel
theorem dL_law_312 : decode cL_law 312 = .ok (.iaload, 1) := by decide +kernel
theorem dL_law_313 : decode cL_law 313 = .ok (.invokevirtual 42, 3) := by decide +kernel
theorem dL_law_316 : decode cL_law 316 = .ok (.aload_n 2, 1) := by decide +kernel
theorem dL_law_317 : decode cL_law 317 = .ok (.aload_n 0, 1) := by decide +kernel
theorem dL_law_318 : decode cL_law 318 = .ok (.iload 4, 2) := by decide +kernel
theorem dL_law_320 : decode cL_law 320 = .ok (.iconst 1, 1) := by decide +kernel
theorem dL_law_321 : decode cL_law 321 = .ok (.iadd, 1) := by decide +kernel
theorem dL_law_322 : decode cL_law 322 = .ok (.iaload, 1) := by decide +kernel
theorem dL_law_323 : decode cL_law 323 = .ok (.aload_n 0, 1) := by decide +kernel
theorem dL_law_324 : decode cL_law 324 = .ok (.iload 4, 2) := by decide +kernel
theorem dL_law_326 : decode cL_law 326 = .ok (.iconst 2, 1) := by decide +kernel
theorem dL_law_327 : decode cL_law 327 = .ok (.iadd, 1) := by decide +kernel
theorem dL_law_328 : decode cL_law 328 = .ok (.iaload, 1) := by decide +kernel
theorem dL_law_329 : decode cL_law 329 = .ok (.invokevirtual 46, 3) := by decide +kernel
theorem dL_law_332 : decode cL_law 332 = .ok (.if_icmp .eq 849, 3) := by decide +kernel
theorem dL_law_335 : decode cL_law 335 = .ok (.iconst 0, 1) := by decide +kernel
theorem dL_law_336 : decode cL_law 336 = .ok (.ireturn, 1) := by decide +kernel
theorem dL_law_337 : decode cL_law 337 = .ok (.aload_n 1, 1) := by decide +kernel
theorem dL_law_338 : decode cL_law 338 = .ok (.aload_n 0, 1) := by decide +kernel
theorem dL_law_339 : decode cL_law 339 = .ok (.iload 4, 2) := by decide +kernel
theorem dL_law_341 : decode cL_law 341 = .ok (.iconst 1, 1) := by decide +kernel
theorem dL_law_342 : decode cL_law 342 = .ok (.iadd, 1) := by decide +kernel
theorem dL_law_343 : decode cL_law 343 = .ok (.iaload, 1) := by decide +kernel
theorem dL_law_344 : decode cL_law 344 = .ok (.aload_n 0, 1) := by decide +kernel
theorem dL_law_345 : decode cL_law 345 = .ok (.iload 4, 2) := by decide +kernel
theorem dL_law_347 : decode cL_law 347 = .ok (.iconst 2, 1) := by decide +kernel
theorem dL_law_348 : decode cL_law 348 = .ok (.iadd, 1) := by decide +kernel
theorem dL_law_349 : decode cL_law 349 = .ok (.iaload, 1) := by decide +kernel
theorem dL_law_350 : decode cL_law 350 = .ok (.invokevirtual 47, 3) := by decide +kernel
theorem dL_law_353 : decode cL_law 353 = .ok (.aload_n 2, 1) := by decide +kernel
theorem dL_law_354 : decode cL_law 354 = .ok (.aload_n 0, 1) := by decide +kernel
theorem dL_law_355 : decode cL_law 355 = .ok (.iload 4, 2) := by decide +kernel
theorem dL_law_357 : decode cL_law 357 = .ok (.iconst 1, 1) := by decide +kernel
theorem dL_law_358 : decode cL_law 358 = .ok (.iadd, 1) := by decide +kernel
theorem dL_law_359 : decode cL_law 359 = .ok (.iaload, 1) := by decide +kernel
theorem dL_law_360 : decode cL_law 360 = .ok (.aload_n 0, 1) := by decide +kernel
theorem dL_law_361 : decode cL_law 361 = .ok (.iload 4, 2) := by decide +kernel
theorem dL_law_363 : decode cL_law 363 = .ok (.iconst 2, 1) := by decide +kernel
theorem dL_law_364 : decode cL_law 364 = .ok (.iadd, 1) := by decide +kernel
theorem dL_law_365 : decode cL_law 365 = .ok (.iaload, 1) := by decide +kernel
theorem dL_law_366 : decode cL_law 366 = .ok (.invokevirtual 50, 3) := by decide +kernel
theorem dL_law_369 : decode cL_law 369 = .ok (.if_icmp .eq 812, 3) := by decide +kernel
theorem dL_law_372 : decode cL_law 372 = .ok (.iconst 0, 1) := by decide +kernel
theorem dL_law_373 : decode cL_law 373 = .ok (.ireturn, 1) := by decide +kernel
theorem dL_law_374 : decode cL_law 374 = .ok (.aload_n 1, 1) := by decide +kernel
theorem dL_law_375 : decode cL_law 375 = .ok (.aload_n 0, 1) := by decide +kernel
theorem dL_law_376 : decode cL_law 376 = .ok (.iload 4, 2) := by decide +kernel
theorem dL_law_378 : decode cL_law 378 = .ok (.iconst 1, 1) := by decide +kernel
theorem dL_law_379 : decode cL_law 379 = .ok (.iadd, 1) := by decide +kernel
theorem dL_law_380 : decode cL_law 380 = .ok (.iaload, 1) := by decide +kernel
theorem dL_law_381 : decode cL_law 381 = .ok (.aload_n 0, 1) := by decide +kernel
theorem dL_law_382 : decode cL_law 382 = .ok (.iload 4, 2) := by decide +kernel
theorem dL_law_384 : decode cL_law 384 = .ok (.iconst 2, 1) := by decide +kernel
theorem dL_law_385 : decode cL_law 385 = .ok (.iadd, 1) := by decide +kernel
theorem dL_law_386 : decode cL_law 386 = .ok (.iaload, 1) := by decide +kernel
theorem dL_law_387 : decode cL_law 387 = .ok (.invokevirtual 51, 3) := by decide +kernel
theorem dL_law_390 : decode cL_law 390 = .ok (.aload_n 2, 1) := by decide +kernel
theorem dL_law_391 : decode cL_law 391 = .ok (.aload_n 0, 1) := by decide +kernel
theorem dL_law_392 : decode cL_law 392 = .ok (.iload 4, 2) := by decide +kernel
theorem dL_law_394 : decode cL_law 394 = .ok (.iconst 1, 1) := by decide +kernel
theorem dL_law_395 : decode cL_law 395 = .ok (.iadd, 1) := by decide +kernel
theorem dL_law_396 : decode cL_law 396 = .ok (.iaload, 1) := by decide +kernel
theorem dL_law_397 : decode cL_law 397 = .ok (.aload_n 0, 1) := by decide +kernel
theorem dL_law_398 : decode cL_law 398 = .ok (.iload 4, 2) := by decide +kernel
theorem dL_law_400 : decode cL_law 400 = .ok (.iconst 2, 1) := by decide +kernel
theorem dL_law_401 : decode cL_law 401 = .ok (.iadd, 1) := by decide +kernel
theorem dL_law_402 : decode cL_law 402 = .ok (.iaload, 1) := by decide +kernel
theorem dL_law_403 : decode cL_law 403 = .ok (.invokevirtual 54, 3) := by decide +kernel
theorem dL_law_406 : decode cL_law 406 = .ok (.if_icmp .eq 775, 3) := by decide +kernel
theorem dL_law_409 : decode cL_law 409 = .ok (.iconst 0, 1) := by decide +kernel
theorem dL_law_410 : decode cL_law 410 = .ok (.ireturn, 1) := by decide +kernel
theorem dL_law_411 : decode cL_law 411 = .ok (.aload_n 1, 1) := by decide +kernel
theorem dL_law_412 : decode cL_law 412 = .ok (.aload_n 0, 1) := by decide +kernel
theorem dL_law_413 : decode cL_law 413 = .ok (.iload 4, 2) := by decide +kernel
theorem dL_law_415 : decode cL_law 415 = .ok (.iconst 1, 1) := by decide +kernel
theorem dL_law_416 : decode cL_law 416 = .ok (.iadd, 1) := by decide +kernel
theorem dL_law_417 : decode cL_law 417 = .ok (.iaload, 1) := by decide +kernel
theorem dL_law_418 : decode cL_law 418 = .ok (.aload_n 0, 1) := by decide +kernel
theorem dL_law_419 : decode cL_law 419 = .ok (.iload 4, 2) := by decide +kernel
theorem dL_law_421 : decode cL_law 421 = .ok (.iconst 2, 1) := by decide +kernel
theorem dL_law_422 : decode cL_law 422 = .ok (.iadd, 1) := by decide +kernel
theorem dL_law_423 : decode cL_law 423 = .ok (.iaload, 1) := by decide +kernel
theorem dL_law_424 : decode cL_law 424 = .ok (.aload_n 0, 1) := by decide +kernel
theorem dL_law_425 : decode cL_law 425 = .ok (.iload 4, 2) := by decide +kernel
theorem dL_law_427 : decode cL_law 427 = .ok (.iconst 3, 1) := by decide +kernel
theorem dL_law_428 : decode cL_law 428 = .ok (.iadd, 1) := by decide +kernel
theorem dL_law_429 : decode cL_law 429 = .ok (.iaload, 1) := by decide +kernel
theorem dL_law_430 : decode cL_law 430 = .ok (.aload_n 0, 1) := by decide +kernel
theorem dL_law_431 : decode cL_law 431 = .ok (.iload 4, 2) := by decide +kernel
theorem dL_law_433 : decode cL_law 433 = .ok (.iconst 4, 1) := by decide +kernel
theorem dL_law_434 : decode cL_law 434 = .ok (.iadd, 1) := by decide +kernel
theorem dL_law_435 : decode cL_law 435 = .ok (.iaload, 1) := by decide +kernel
theorem dL_law_436 : decode cL_law 436 = .ok (.ifCond .eq 7, 3) := by decide +kernel
theorem dL_law_439 : decode cL_law 439 = .ok (.iconst 1, 1) := by decide +kernel
theorem dL_law_440 : decode cL_law 440 = .ok (.goto 4, 3) := by decide +kernel
theorem dL_law_443 : decode cL_law 443 = .ok (.iconst 0, 1) := by decide +kernel
theorem dL_law_444 : decode cL_law 444 = .ok (.invokevirtual 55, 3) := by decide +kernel
theorem dL_law_447 : decode cL_law 447 = .ok (.aload_n 2, 1) := by decide +kernel
theorem dL_law_448 : decode cL_law 448 = .ok (.aload_n 0, 1) := by decide +kernel
theorem dL_law_449 : decode cL_law 449 = .ok (.iload 4, 2) := by decide +kernel
theorem dL_law_451 : decode cL_law 451 = .ok (.iconst 1, 1) := by decide +kernel
theorem dL_law_452 : decode cL_law 452 = .ok (.iadd, 1) := by decide +kernel
theorem dL_law_453 : decode cL_law 453 = .ok (.iaload, 1) := by decide +kernel
theorem dL_law_454 : decode cL_law 454 = .ok (.aload_n 0, 1) := by decide +kernel
theorem dL_law_455 : decode cL_law 455 = .ok (.iload 4, 2) := by decide +kernel
theorem dL_law_457 : decode cL_law 457 = .ok (.iconst 2, 1) := by decide +kernel
theorem dL_law_458 : decode cL_law 458 = .ok (.iadd, 1) := by decide +kernel
theorem dL_law_459 : decode cL_law 459 = .ok (.iaload, 1) := by decide +kernel
theorem dL_law_460 : decode cL_law 460 = .ok (.aload_n 0, 1) := by decide +kernel
theorem dL_law_461 : decode cL_law 461 = .ok (.iload 4, 2) := by decide +kernel
theorem dL_law_463 : decode cL_law 463 = .ok (.iconst 3, 1) := by decide +kernel
theorem dL_law_464 : decode cL_law 464 = .ok (.iadd, 1) := by decide +kernel
theorem dL_law_465 : decode cL_law 465 = .ok (.iaload, 1) := by decide +kernel
theorem dL_law_466 : decode cL_law 466 = .ok (.aload_n 0, 1) := by decide +kernel
theorem dL_law_467 : decode cL_law 467 = .ok (.iload 4, 2) := by decide +kernel
theorem dL_law_469 : decode cL_law 469 = .ok (.iconst 4, 1) := by decide +kernel
theorem dL_law_470 : decode cL_law 470 = .ok (.iadd, 1) := by decide +kernel
theorem dL_law_471 : decode cL_law 471 = .ok (.iaload, 1) := by decide +kernel
theorem dL_law_472 : decode cL_law 472 = .ok (.ifCond .eq 7, 3) := by decide +kernel
theorem dL_law_475 : decode cL_law 475 = .ok (.iconst 1, 1) := by decide +kernel
theorem dL_law_476 : decode cL_law 476 = .ok (.goto 4, 3) := by decide +kernel
theorem dL_law_479 : decode cL_law 479 = .ok (.iconst 0, 1) := by decide +kernel
theorem dL_law_480 : decode cL_law 480 = .ok (.invokevirtual 59, 3) := by decide +kernel
theorem dL_law_483 : decode cL_law 483 = .ok (.if_icmp .eq 698, 3) := by decide +kernel
theorem dL_law_486 : decode cL_law 486 = .ok (.iconst 0, 1) := by decide +kernel
theorem dL_law_487 : decode cL_law 487 = .ok (.ireturn, 1) := by decide +kernel
theorem dL_law_488 : decode cL_law 488 = .ok (.aload_n 1, 1) := by decide +kernel
theorem dL_law_489 : decode cL_law 489 = .ok (.aload_n 0, 1) := by decide +kernel
theorem dL_law_490 : decode cL_law 490 = .ok (.iload 4, 2) := by decide +kernel
theorem dL_law_492 : decode cL_law 492 = .ok (.iconst 1, 1) := by decide +kernel
theorem dL_law_493 : decode cL_law 493 = .ok (.iadd, 1) := by decide +kernel
theorem dL_law_494 : decode cL_law 494 = .ok (.iaload, 1) := by decide +kernel
theorem dL_law_495 : decode cL_law 495 = .ok (.aload_n 0, 1) := by decide +kernel
theorem dL_law_496 : decode cL_law 496 = .ok (.iload 4, 2) := by decide +kernel
theorem dL_law_498 : decode cL_law 498 = .ok (.iconst 2, 1) := by decide +kernel
theorem dL_law_499 : decode cL_law 499 = .ok (.iadd, 1) := by decide +kernel
theorem dL_law_500 : decode cL_law 500 = .ok (.iaload, 1) := by decide +kernel
theorem dL_law_501 : decode cL_law 501 = .ok (.invokevirtual 60, 3) := by decide +kernel
theorem dL_law_504 : decode cL_law 504 = .ok (.aload_n 2, 1) := by decide +kernel
theorem dL_law_505 : decode cL_law 505 = .ok (.aload_n 0, 1) := by decide +kernel
theorem dL_law_506 : decode cL_law 506 = .ok (.iload 4, 2) := by decide +kernel
theorem dL_law_508 : decode cL_law 508 = .ok (.iconst 1, 1) := by decide +kernel
theorem dL_law_509 : decode cL_law 509 = .ok (.iadd, 1) := by decide +kernel
theorem dL_law_510 : decode cL_law 510 = .ok (.iaload, 1) := by decide +kernel
theorem dL_law_511 : decode cL_law 511 = .ok (.aload_n 0, 1) := by decide +kernel
theorem dL_law_512 : decode cL_law 512 = .ok (.iload 4, 2) := by decide +kernel
theorem dL_law_514 : decode cL_law 514 = .ok (.iconst 2, 1) := by decide +kernel
theorem dL_law_515 : decode cL_law 515 = .ok (.iadd, 1) := by decide +kernel
theorem dL_law_516 : decode cL_law 516 = .ok (.iaload, 1) := by decide +kernel
theorem dL_law_517 : decode cL_law 517 = .ok (.invokevirtual 63, 3) := by decide +kernel
theorem dL_law_520 : decode cL_law 520 = .ok (.if_icmp .eq 661, 3) := by decide +kernel
theorem dL_law_523 : decode cL_law 523 = .ok (.iconst 0, 1) := by decide +kernel
theorem dL_law_524 : decode cL_law 524 = .ok (.ireturn, 1) := by decide +kernel
theorem dL_law_525 : decode cL_law 525 = .ok (.aload_n 1, 1) := by decide +kernel
theorem dL_law_526 : decode cL_law 526 = .ok (.aload_n 0, 1) := by decide +kernel
theorem dL_law_527 : decode cL_law 527 = .ok (.iload 4, 2) := by decide +kernel
theorem dL_law_529 : decode cL_law 529 = .ok (.iconst 1, 1) := by decide +kernel
theorem dL_law_530 : decode cL_law 530 = .ok (.iadd, 1) := by decide +kernel
theorem dL_law_531 : decode cL_law 531 = .ok (.iaload, 1) := by decide +kernel
theorem dL_law_532 : decode cL_law 532 = .ok (.aload_n 0, 1) := by decide +kernel
theorem dL_law_533 : decode cL_law 533 = .ok (.iload 4, 2) := by decide +kernel
theorem dL_law_535 : decode cL_law 535 = .ok (.iconst 2, 1) := by decide +kernel
theorem dL_law_536 : decode cL_law 536 = .ok (.iadd, 1) := by decide +kernel
theorem dL_law_537 : decode cL_law 537 = .ok (.iaload, 1) := by decide +kernel
theorem dL_law_538 : decode cL_law 538 = .ok (.aload_n 0, 1) := by decide +kernel
theorem dL_law_539 : decode cL_law 539 = .ok (.iload 4, 2) := by decide +kernel
theorem dL_law_541 : decode cL_law 541 = .ok (.iconst 3, 1) := by decide +kernel
theorem dL_law_542 : decode cL_law 542 = .ok (.iadd, 1) := by decide +kernel
theorem dL_law_543 : decode cL_law 543 = .ok (.iaload, 1) := by decide +kernel
theorem dL_law_544 : decode cL_law 544 = .ok (.invokevirtual 64, 3) := by decide +kernel
theorem dL_law_547 : decode cL_law 547 = .ok (.aload_n 2, 1) := by decide +kernel
theorem dL_law_548 : decode cL_law 548 = .ok (.aload_n 0, 1) := by decide +kernel
theorem dL_law_549 : decode cL_law 549 = .ok (.iload 4, 2) := by decide +kernel
theorem dL_law_551 : decode cL_law 551 = .ok (.iconst 1, 1) := by decide +kernel
theorem dL_law_552 : decode cL_law 552 = .ok (.iadd, 1) := by decide +kernel
theorem dL_law_553 : decode cL_law 553 = .ok (.iaload, 1) := by decide +kernel
theorem dL_law_554 : decode cL_law 554 = .ok (.aload_n 0, 1) := by decide +kernel
theorem dL_law_555 : decode cL_law 555 = .ok (.iload 4, 2) := by decide +kernel
theorem dL_law_557 : decode cL_law 557 = .ok (.iconst 2, 1) := by decide +kernel
theorem dL_law_558 : decode cL_law 558 = .ok (.iadd, 1) := by decide +kernel
theorem dL_law_559 : decode cL_law 559 = .ok (.iaload, 1) := by decide +kernel
theorem dL_law_560 : decode cL_law 560 = .ok (.aload_n 0, 1) := by decide +kernel
theorem dL_law_561 : decode cL_law 561 = .ok (.iload 4, 2) := by decide +kernel
theorem dL_law_563 : decode cL_law 563 = .ok (.iconst 3, 1) := by decide +kernel
theorem dL_law_564 : decode cL_law 564 = .ok (.iadd, 1) := by decide +kernel
theorem dL_law_565 : decode cL_law 565 = .ok (.iaload, 1) := by decide +kernel
theorem dL_law_566 : decode cL_law 566 = .ok (.invokevirtual 68, 3) := by decide +kernel
theorem dL_law_569 : decode cL_law 569 = .ok (.if_icmp .eq 612, 3) := by decide +kernel
theorem dL_law_572 : decode cL_law 572 = .ok (.iconst 0, 1) := by decide +kernel
theorem dL_law_573 : decode cL_law 573 = .ok (.ireturn, 1) := by decide +kernel
theorem dL_law_574 : decode cL_law 574 = .ok (.aload_n 1, 1) := by decide +kernel
theorem dL_law_575 : decode cL_law 575 = .ok (.aload_n 0, 1) := by decide +kernel
theorem dL_law_576 : decode cL_law 576 = .ok (.iload 4, 2) := by decide +kernel
theorem dL_law_578 : decode cL_law 578 = .ok (.iconst 1, 1) := by decide +kernel
theorem dL_law_579 : decode cL_law 579 = .ok (.iadd, 1) := by decide +kernel
theorem dL_law_580 : decode cL_law 580 = .ok (.iaload, 1) := by decide +kernel
theorem dL_law_581 : decode cL_law 581 = .ok (.aload_n 0, 1) := by decide +kernel
theorem dL_law_582 : decode cL_law 582 = .ok (.iload 4, 2) := by decide +kernel
theorem dL_law_584 : decode cL_law 584 = .ok (.iconst 2, 1) := by decide +kernel
theorem dL_law_585 : decode cL_law 585 = .ok (.iadd, 1) := by decide +kernel
theorem dL_law_586 : decode cL_law 586 = .ok (.iaload, 1) := by decide +kernel
theorem dL_law_587 : decode cL_law 587 = .ok (.aload_n 0, 1) := by decide +kernel
theorem dL_law_588 : decode cL_law 588 = .ok (.iload 4, 2) := by decide +kernel
theorem dL_law_590 : decode cL_law 590 = .ok (.iconst 3, 1) := by decide +kernel
theorem dL_law_591 : decode cL_law 591 = .ok (.iadd, 1) := by decide +kernel
theorem dL_law_592 : decode cL_law 592 = .ok (.iaload, 1) := by decide +kernel
theorem dL_law_593 : decode cL_law 593 = .ok (.invokevirtual 69, 3) := by decide +kernel
theorem dL_law_596 : decode cL_law 596 = .ok (.aload_n 2, 1) := by decide +kernel
theorem dL_law_597 : decode cL_law 597 = .ok (.aload_n 0, 1) := by decide +kernel
theorem dL_law_598 : decode cL_law 598 = .ok (.iload 4, 2) := by decide +kernel
theorem dL_law_600 : decode cL_law 600 = .ok (.iconst 1, 1) := by decide +kernel
theorem dL_law_601 : decode cL_law 601 = .ok (.iadd, 1) := by decide +kernel
theorem dL_law_602 : decode cL_law 602 = .ok (.iaload, 1) := by decide +kernel
theorem dL_law_603 : decode cL_law 603 = .ok (.aload_n 0, 1) := by decide +kernel
theorem dL_law_604 : decode cL_law 604 = .ok (.iload 4, 2) := by decide +kernel
theorem dL_law_606 : decode cL_law 606 = .ok (.iconst 2, 1) := by decide +kernel
theorem dL_law_607 : decode cL_law 607 = .ok (.iadd, 1) := by decide +kernel
theorem dL_law_608 : decode cL_law 608 = .ok (.iaload, 1) := by decide +kernel
theorem dL_law_609 : decode cL_law 609 = .ok (.aload_n 0, 1) := by decide +kernel
theorem dL_law_610 : decode cL_law 610 = .ok (.iload 4, 2) := by decide +kernel
theorem dL_law_612 : decode cL_law 612 = .ok (.iconst 3, 1) := by decide +kernel
theorem dL_law_613 : decode cL_law 613 = .ok (.iadd, 1) := by decide +kernel
theorem dL_law_614 : decode cL_law 614 = .ok (.iaload, 1) := by decide +kernel
theorem dL_law_615 : decode cL_law 615 = .ok (.invokevirtual 72, 3) := by decide +kernel
theorem dL_law_618 : decode cL_law 618 = .ok (.if_icmp .eq 563, 3) := by decide +kernel
theorem dL_law_621 : decode cL_law 621 = .ok (.iconst 0, 1) := by decide +kernel
theorem dL_law_622 : decode cL_law 622 = .ok (.ireturn, 1) := by decide +kernel
theorem dL_law_623 : decode cL_law 623 = .ok (.aload_n 1, 1) := by decide +kernel
theorem dL_law_624 : decode cL_law 624 = .ok (.aload_n 0, 1) := by decide +kernel
theorem dL_law_625 : decode cL_law 625 = .ok (.iload 4, 2) := by decide +kernel
theorem dL_law_627 : decode cL_law 627 = .ok (.iconst 1, 1) := by decide +kernel
theorem dL_law_628 : decode cL_law 628 = .ok (.iadd, 1) := by decide +kernel
theorem dL_law_629 : decode cL_law 629 = .ok (.iaload, 1) := by decide +kernel
theorem dL_law_630 : decode cL_law 630 = .ok (.aload_n 3, 1) := by decide +kernel
theorem dL_law_631 : decode cL_law 631 = .ok (.invokestatic 73, 3) := by decide +kernel
theorem dL_law_634 : decode cL_law 634 = .ok (.istore 5, 2) := by decide +kernel
theorem dL_law_636 : decode cL_law 636 = .ok (.aload_n 2, 1) := by decide +kernel
theorem dL_law_637 : decode cL_law 637 = .ok (.aload_n 0, 1) := by decide +kernel
theorem dL_law_638 : decode cL_law 638 = .ok (.iload 4, 2) := by decide +kernel
theorem dL_law_640 : decode cL_law 640 = .ok (.iconst 1, 1) := by decide +kernel
theorem dL_law_641 : decode cL_law 641 = .ok (.iadd, 1) := by decide +kernel
theorem dL_law_642 : decode cL_law 642 = .ok (.iaload, 1) := by decide +kernel
theorem dL_law_643 : decode cL_law 643 = .ok (.invokevirtual 78, 3) := by decide +kernel
theorem dL_law_646 : decode cL_law 646 = .ok (.istore 6, 2) := by decide +kernel
theorem dL_law_648 : decode cL_law 648 = .ok (.aload_n 2, 1) := by decide +kernel
theorem dL_law_649 : decode cL_law 649 = .ok (.invokevirtual 79, 3) := by decide +kernel
theorem dL_law_652 : decode cL_law 652 = .ok (.iload 5, 2) := by decide +kernel
theorem dL_law_654 : decode cL_law 654 = .ok (.if_icmp .eq 5, 3) := by decide +kernel
theorem dL_law_657 : decode cL_law 657 = .ok (.iconst 0, 1) := by decide +kernel
theorem dL_law_658 : decode cL_law 658 = .ok (.ireturn, 1) := by decide +kernel
theorem dL_law_659 : decode cL_law 659 = .ok (.iload 5, 2) := by decide +kernel
theorem dL_law_661 : decode cL_law 661 = .ok (.ifCond .ne 15, 3) := by decide +kernel
theorem dL_law_664 : decode cL_law 664 = .ok (.aload_n 3, 1) := by decide +kernel
theorem dL_law_665 : decode cL_law 665 = .ok (.iconst 0, 1) := by decide +kernel
theorem dL_law_666 : decode cL_law 666 = .ok (.laload, 1) := by decide +kernel
theorem dL_law_667 : decode cL_law 667 = .ok (.iload 6, 2) := by decide +kernel
theorem dL_law_669 : decode cL_law 669 = .ok (.i2l, 1) := by decide +kernel
theorem dL_law_670 : decode cL_law 670 = .ok (.lcmp, 1) := by decide +kernel
theorem dL_law_671 : decode cL_law 671 = .ok (.ifCond .eq 5, 3) := by decide +kernel
theorem dL_law_674 : decode cL_law 674 = .ok (.iconst 0, 1) := by decide +kernel
theorem dL_law_675 : decode cL_law 675 = .ok (.ireturn, 1) := by decide +kernel
theorem dL_law_676 : decode cL_law 676 = .ok (.goto 505, 3) := by decide +kernel
theorem dL_law_679 : decode cL_law 679 = .ok (.aload_n 1, 1) := by decide +kernel
theorem dL_law_680 : decode cL_law 680 = .ok (.aload_n 0, 1) := by decide +kernel
theorem dL_law_681 : decode cL_law 681 = .ok (.iload 4, 2) := by decide +kernel
theorem dL_law_683 : decode cL_law 683 = .ok (.iconst 1, 1) := by decide +kernel
theorem dL_law_684 : decode cL_law 684 = .ok (.iadd, 1) := by decide +kernel
theorem dL_law_685 : decode cL_law 685 = .ok (.iaload, 1) := by decide +kernel
theorem dL_law_686 : decode cL_law 686 = .ok (.aload_n 0, 1) := by decide +kernel
theorem dL_law_687 : decode cL_law 687 = .ok (.iload 4, 2) := by decide +kernel
theorem dL_law_689 : decode cL_law 689 = .ok (.iconst 2, 1) := by decide +kernel
theorem dL_law_690 : decode cL_law 690 = .ok (.iadd, 1) := by decide +kernel
theorem dL_law_691 : decode cL_law 691 = .ok (.iaload, 1) := by decide +kernel
theorem dL_law_692 : decode cL_law 692 = .ok (.invokevirtual 82, 3) := by decide +kernel
theorem dL_law_695 : decode cL_law 695 = .ok (.aload_n 2, 1) := by decide +kernel
theorem dL_law_696 : decode cL_law 696 = .ok (.aload_n 0, 1) := by decide +kernel
theorem dL_law_697 : decode cL_law 697 = .ok (.iload 4, 2) := by decide +kernel
theorem dL_law_699 : decode cL_law 699 = .ok (.iconst 1, 1) := by decide +kernel
theorem dL_law_700 : decode cL_law 700 = .ok (.iadd, 1) := by decide +kernel
theorem dL_law_701 : decode cL_law 701 = .ok (.iaload, 1) := by decide +kernel
theorem dL_law_702 : decode cL_law 702 = .ok (.aload_n 0, 1) := by decide +kernel
theorem dL_law_703 : decode cL_law 703 = .ok (.iload 4, 2) := by decide +kernel
theorem dL_law_705 : decode cL_law 705 = .ok (.iconst 2, 1) := by decide +kernel
theorem dL_law_706 : decode cL_law 706 = .ok (.iadd, 1) := by decide +kernel
theorem dL_law_707 : decode cL_law 707 = .ok (.iaload, 1) := by decide +kernel
theorem dL_law_708 : decode cL_law 708 = .ok (.invokevirtual 85, 3) := by decide +kernel
theorem dL_law_711 : decode cL_law 711 = .ok (.if_icmp .eq 470, 3) := by decide +kernel
theorem dL_law_714 : decode cL_law 714 = .ok (.iconst 0, 1) := by decide +kernel
theorem dL_law_715 : decode cL_law 715 = .ok (.ireturn, 1) := by decide +kernel
theorem dL_law_716 : decode cL_law 716 = .ok (.aload_n 1, 1) := by decide +kernel
theorem dL_law_717 : decode cL_law 717 = .ok (.aload_n 0, 1) := by decide +kernel
theorem dL_law_718 : decode cL_law 718 = .ok (.iload 4, 2) := by decide +kernel
theorem dL_law_720 : decode cL_law 720 = .ok (.iconst 1, 1) := by decide +kernel
theorem dL_law_721 : decode cL_law 721 = .ok (.iadd, 1) := by decide +kernel
theorem dL_law_722 : decode cL_law 722 = .ok (.iaload, 1) := by decide +kernel
theorem dL_law_723 : decode cL_law 723 = .ok (.aload_n 0, 1) := by decide +kernel
theorem dL_law_724 : decode cL_law 724 = .ok (.iload 4, 2) := by decide +kernel
theorem dL_law_726 : decode cL_law 726 = .ok (.iconst 2, 1) := by decide +kernel
theorem dL_law_727 : decode cL_law 727 = .ok (.iadd, 1) := by decide +kernel
theorem dL_law_728 : decode cL_law 728 = .ok (.iaload, 1) := by decide +kernel
theorem dL_law_729 : decode cL_law 729 = .ok (.aload_n 0, 1) := by decide +kernel
theorem dL_law_730 : decode cL_law 730 = .ok (.iload 4, 2) := by decide +kernel
theorem dL_law_732 : decode cL_law 732 = .ok (.iconst 3, 1) := by decide +kernel
theorem dL_law_733 : decode cL_law 733 = .ok (.iadd, 1) := by decide +kernel
theorem dL_law_734 : decode cL_law 734 = .ok (.iaload, 1) := by decide +kernel
theorem dL_law_735 : decode cL_law 735 = .ok (.invokevirtual 86, 3) := by decide +kernel
theorem dL_law_738 : decode cL_law 738 = .ok (.aload_n 2, 1) := by decide +kernel
theorem dL_law_739 : decode cL_law 739 = .ok (.aload_n 0, 1) := by decide +kernel
theorem dL_law_740 : decode cL_law 740 = .ok (.iload 4, 2) := by decide +kernel
theorem dL_law_742 : decode cL_law 742 = .ok (.iconst 1, 1) := by decide +kernel
theorem dL_law_743 : decode cL_law 743 = .ok (.iadd, 1) := by decide +kernel
theorem dL_law_744 : decode cL_law 744 = .ok (.iaload, 1) := by decide +kernel
theorem dL_law_745 : decode cL_law 745 = .ok (.aload_n 0, 1) := by decide +kernel
theorem dL_law_746 : decode cL_law 746 = .ok (.iload 4, 2) := by decide +kernel
theorem dL_law_748 : decode cL_law 748 = .ok (.iconst 2, 1) := by decide +kernel
theorem dL_law_749 : decode cL_law 749 = .ok (.iadd, 1) := by decide +kernel
theorem dL_law_750 : decode cL_law 750 = .ok (.iaload, 1) := by decide +kernel
theorem dL_law_751 : decode cL_law 751 = .ok (.aload_n 0, 1) := by decide +kernel
theorem dL_law_752 : decode cL_law 752 = .ok (.iload 4, 2) := by decide +kernel
theorem dL_law_754 : decode cL_law 754 = .ok (.iconst 3, 1) := by decide +kernel
theorem dL_law_755 : decode cL_law 755 = .ok (.iadd, 1) := by decide +kernel
theorem dL_law_756 : decode cL_law 756 = .ok (.iaload, 1) := by decide +kernel
theorem dL_law_757 : decode cL_law 757 = .ok (.invokevirtual 89, 3) := by decide +kernel
theorem dL_law_760 : decode cL_law 760 = .ok (.if_icmp .eq 421, 3) := by decide +kernel
theorem dL_law_763 : decode cL_law 763 = .ok (.iconst 0, 1) := by decide +kernel
theorem dL_law_764 : decode cL_law 764 = .ok (.ireturn, 1) := by decide +kernel
theorem dL_law_765 : decode cL_law 765 = .ok (.aload_n 1, 1) := by decide +kernel
theorem dL_law_766 : decode cL_law 766 = .ok (.aload_n 0, 1) := by decide +kernel
theorem dL_law_767 : decode cL_law 767 = .ok (.iload 4, 2) := by decide +kernel
theorem dL_law_769 : decode cL_law 769 = .ok (.iconst 1, 1) := by decide +kernel
theorem dL_law_770 : decode cL_law 770 = .ok (.iadd, 1) := by decide +kernel
theorem dL_law_771 : decode cL_law 771 = .ok (.iaload, 1) := by decide +kernel
theorem dL_law_772 : decode cL_law 772 = .ok (.aload_n 0, 1) := by decide +kernel
theorem dL_law_773 : decode cL_law 773 = .ok (.iload 4, 2) := by decide +kernel
theorem dL_law_775 : decode cL_law 775 = .ok (.iconst 2, 1) := by decide +kernel
theorem dL_law_776 : decode cL_law 776 = .ok (.iadd, 1) := by decide +kernel
theorem dL_law_777 : decode cL_law 777 = .ok (.iaload, 1) := by decide +kernel
theorem dL_law_778 : decode cL_law 778 = .ok (.aload_n 0, 1) := by decide +kernel
theorem dL_law_779 : decode cL_law 779 = .ok (.iload 4, 2) := by decide +kernel
theorem dL_law_781 : decode cL_law 781 = .ok (.iconst 3, 1) := by decide +kernel
theorem dL_law_782 : decode cL_law 782 = .ok (.iadd, 1) := by decide +kernel
theorem dL_law_783 : decode cL_law 783 = .ok (.iaload, 1) := by decide +kernel
theorem dL_law_784 : decode cL_law 784 = .ok (.invokevirtual 90, 3) := by decide +kernel
theorem dL_law_787 : decode cL_law 787 = .ok (.aload_n 2, 1) := by decide +kernel
theorem dL_law_788 : decode cL_law 788 = .ok (.aload_n 0, 1) := by decide +kernel
theorem dL_law_789 : decode cL_law 789 = .ok (.iload 4, 2) := by decide +kernel
theorem dL_law_791 : decode cL_law 791 = .ok (.iconst 1, 1) := by decide +kernel
theorem dL_law_792 : decode cL_law 792 = .ok (.iadd, 1) := by decide +kernel
theorem dL_law_793 : decode cL_law 793 = .ok (.iaload, 1) := by decide +kernel
theorem dL_law_794 : decode cL_law 794 = .ok (.aload_n 0, 1) := by decide +kernel
theorem dL_law_795 : decode cL_law 795 = .ok (.iload 4, 2) := by decide +kernel
theorem dL_law_797 : decode cL_law 797 = .ok (.iconst 2, 1) := by decide +kernel
theorem dL_law_798 : decode cL_law 798 = .ok (.iadd, 1) := by decide +kernel
theorem dL_law_799 : decode cL_law 799 = .ok (.iaload, 1) := by decide +kernel
theorem dL_law_800 : decode cL_law 800 = .ok (.aload_n 0, 1) := by decide +kernel
theorem dL_law_801 : decode cL_law 801 = .ok (.iload 4, 2) := by decide +kernel
theorem dL_law_803 : decode cL_law 803 = .ok (.iconst 3, 1) := by decide +kernel
theorem dL_law_804 : decode cL_law 804 = .ok (.iadd, 1) := by decide +kernel
theorem dL_law_805 : decode cL_law 805 = .ok (.iaload, 1) := by decide +kernel
theorem dL_law_806 : decode cL_law 806 = .ok (.invokevirtual 94, 3) := by decide +kernel
theorem dL_law_809 : decode cL_law 809 = .ok (.if_icmp .eq 372, 3) := by decide +kernel
theorem dL_law_812 : decode cL_law 812 = .ok (.iconst 0, 1) := by decide +kernel
theorem dL_law_813 : decode cL_law 813 = .ok (.ireturn, 1) := by decide +kernel
theorem dL_law_814 : decode cL_law 814 = .ok (.aload_n 1, 1) := by decide +kernel
theorem dL_law_815 : decode cL_law 815 = .ok (.aload_n 0, 1) := by decide +kernel
theorem dL_law_816 : decode cL_law 816 = .ok (.iload 4, 2) := by decide +kernel
theorem dL_law_818 : decode cL_law 818 = .ok (.iconst 1, 1) := by decide +kernel
theorem dL_law_819 : decode cL_law 819 = .ok (.iadd, 1) := by decide +kernel
theorem dL_law_820 : decode cL_law 820 = .ok (.iaload, 1) := by decide +kernel
theorem dL_law_821 : decode cL_law 821 = .ok (.aload_n 0, 1) := by decide +kernel
theorem dL_law_822 : decode cL_law 822 = .ok (.iload 4, 2) := by decide +kernel
theorem dL_law_824 : decode cL_law 824 = .ok (.iconst 2, 1) := by decide +kernel
theorem dL_law_825 : decode cL_law 825 = .ok (.iadd, 1) := by decide +kernel
theorem dL_law_826 : decode cL_law 826 = .ok (.iaload, 1) := by decide +kernel
theorem dL_law_827 : decode cL_law 827 = .ok (.invokevirtual 95, 3) := by decide +kernel
theorem dL_law_830 : decode cL_law 830 = .ok (.aload_n 2, 1) := by decide +kernel
theorem dL_law_831 : decode cL_law 831 = .ok (.aload_n 0, 1) := by decide +kernel
theorem dL_law_832 : decode cL_law 832 = .ok (.iload 4, 2) := by decide +kernel
theorem dL_law_834 : decode cL_law 834 = .ok (.iconst 1, 1) := by decide +kernel
theorem dL_law_835 : decode cL_law 835 = .ok (.iadd, 1) := by decide +kernel
theorem dL_law_836 : decode cL_law 836 = .ok (.iaload, 1) := by decide +kernel
theorem dL_law_837 : decode cL_law 837 = .ok (.aload_n 0, 1) := by decide +kernel
theorem dL_law_838 : decode cL_law 838 = .ok (.iload 4, 2) := by decide +kernel
theorem dL_law_840 : decode cL_law 840 = .ok (.iconst 2, 1) := by decide +kernel
theorem dL_law_841 : decode cL_law 841 = .ok (.iadd, 1) := by decide +kernel
theorem dL_law_842 : decode cL_law 842 = .ok (.iaload, 1) := by decide +kernel
theorem dL_law_843 : decode cL_law 843 = .ok (.invokevirtual 98, 3) := by decide +kernel
theorem dL_law_846 : decode cL_law 846 = .ok (.if_icmp .eq 335, 3) := by decide +kernel
theorem dL_law_849 : decode cL_law 849 = .ok (.iconst 0, 1) := by decide +kernel
theorem dL_law_850 : decode cL_law 850 = .ok (.ireturn, 1) := by decide +kernel
theorem dL_law_851 : decode cL_law 851 = .ok (.aload_n 1, 1) := by decide +kernel
theorem dL_law_852 : decode cL_law 852 = .ok (.aload_n 0, 1) := by decide +kernel
theorem dL_law_853 : decode cL_law 853 = .ok (.iload 4, 2) := by decide +kernel
theorem dL_law_855 : decode cL_law 855 = .ok (.iconst 1, 1) := by decide +kernel
theorem dL_law_856 : decode cL_law 856 = .ok (.iadd, 1) := by decide +kernel
theorem dL_law_857 : decode cL_law 857 = .ok (.iaload, 1) := by decide +kernel
theorem dL_law_858 : decode cL_law 858 = .ok (.aload_n 0, 1) := by decide +kernel
theorem dL_law_859 : decode cL_law 859 = .ok (.iload 4, 2) := by decide +kernel
theorem dL_law_861 : decode cL_law 861 = .ok (.iconst 2, 1) := by decide +kernel
theorem dL_law_862 : decode cL_law 862 = .ok (.iadd, 1) := by decide +kernel
theorem dL_law_863 : decode cL_law 863 = .ok (.iaload, 1) := by decide +kernel
theorem dL_law_864 : decode cL_law 864 = .ok (.invokevirtual 99, 3) := by decide +kernel
theorem dL_law_867 : decode cL_law 867 = .ok (.aload_n 2, 1) := by decide +kernel
theorem dL_law_868 : decode cL_law 868 = .ok (.aload_n 0, 1) := by decide +kernel
theorem dL_law_869 : decode cL_law 869 = .ok (.iload 4, 2) := by decide +kernel
theorem dL_law_871 : decode cL_law 871 = .ok (.iconst 1, 1) := by decide +kernel
theorem dL_law_872 : decode cL_law 872 = .ok (.iadd, 1) := by decide +kernel
theorem dL_law_873 : decode cL_law 873 = .ok (.iaload, 1) := by decide +kernel
theorem dL_law_874 : decode cL_law 874 = .ok (.aload_n 0, 1) := by decide +kernel
theorem dL_law_875 : decode cL_law 875 = .ok (.iload 4, 2) := by decide +kernel
theorem dL_law_877 : decode cL_law 877 = .ok (.iconst 2, 1) := by decide +kernel
theorem dL_law_878 : decode cL_law 878 = .ok (.iadd, 1) := by decide +kernel
theorem dL_law_879 : decode cL_law 879 = .ok (.iaload, 1) := by decide +kernel
theorem dL_law_880 : decode cL_law 880 = .ok (.invokevirtual 102, 3) := by decide +kernel
theorem dL_law_883 : decode cL_law 883 = .ok (.if_icmp .eq 298, 3) := by decide +kernel
theorem dL_law_886 : decode cL_law 886 = .ok (.iconst 0, 1) := by decide +kernel
theorem dL_law_887 : decode cL_law 887 = .ok (.ireturn, 1) := by decide +kernel
theorem dL_law_888 : decode cL_law 888 = .ok (.aload_n 1, 1) := by decide +kernel
theorem dL_law_889 : decode cL_law 889 = .ok (.aload_n 0, 1) := by decide +kernel
theorem dL_law_890 : decode cL_law 890 = .ok (.iload 4, 2) := by decide +kernel
theorem dL_law_892 : decode cL_law 892 = .ok (.iconst 1, 1) := by decide +kernel
theorem dL_law_893 : decode cL_law 893 = .ok (.iadd, 1) := by decide +kernel
theorem dL_law_894 : decode cL_law 894 = .ok (.iaload, 1) := by decide +kernel
theorem dL_law_895 : decode cL_law 895 = .ok (.invokevirtual 103, 3) := by decide +kernel
theorem dL_law_898 : decode cL_law 898 = .ok (.aload_n 2, 1) := by decide +kernel
theorem dL_law_899 : decode cL_law 899 = .ok (.aload_n 0, 1) := by decide +kernel
theorem dL_law_900 : decode cL_law 900 = .ok (.iload 4, 2) := by decide +kernel
theorem dL_law_902 : decode cL_law 902 = .ok (.iconst 1, 1) := by decide +kernel
theorem dL_law_903 : decode cL_law 903 = .ok (.iadd, 1) := by decide +kernel
theorem dL_law_904 : decode cL_law 904 = .ok (.iaload, 1) := by decide +kernel
theorem dL_law_905 : decode cL_law 905 = .ok (.invokevirtual 106, 3) := by decide +kernel
theorem dL_law_908 : decode cL_law 908 = .ok (.if_icmp .eq 273, 3) := by decide +kernel
theorem dL_law_911 : decode cL_law 911 = .ok (.iconst 0, 1) := by decide +kernel
theorem dL_law_912 : decode cL_law 912 = .ok (.ireturn, 1) := by decide +kernel
theorem dL_law_913 : decode cL_law 913 = .ok (.aload_n 1, 1) := by decide +kernel
theorem dL_law_914 : decode cL_law 914 = .ok (.aload_n 0, 1) := by decide +kernel
theorem dL_law_915 : decode cL_law 915 = .ok (.iload 4, 2) := by decide +kernel
theorem dL_law_917 : decode cL_law 917 = .ok (.iconst 1, 1) := by decide +kernel
theorem dL_law_918 : decode cL_law 918 = .ok (.iadd, 1) := by decide +kernel
theorem dL_law_919 : decode cL_law 919 = .ok (.iaload, 1) := by decide +kernel
theorem dL_law_920 : decode cL_law 920 = .ok (.invokevirtual 107, 3) := by decide +kernel
theorem dL_law_923 : decode cL_law 923 = .ok (.aload_n 2, 1) := by decide +kernel
theorem dL_law_924 : decode cL_law 924 = .ok (.aload_n 0, 1) := by decide +kernel
theorem dL_law_925 : decode cL_law 925 = .ok (.iload 4, 2) := by decide +kernel
theorem dL_law_927 : decode cL_law 927 = .ok (.iconst 1, 1) := by decide +kernel
theorem dL_law_928 : decode cL_law 928 = .ok (.iadd, 1) := by decide +kernel
theorem dL_law_929 : decode cL_law 929 = .ok (.iaload, 1) := by decide +kernel
theorem dL_law_930 : decode cL_law 930 = .ok (.invokevirtual 110, 3) := by decide +kernel
theorem dL_law_933 : decode cL_law 933 = .ok (.if_icmp .eq 248, 3) := by decide +kernel
theorem dL_law_936 : decode cL_law 936 = .ok (.iconst 0, 1) := by decide +kernel
theorem dL_law_937 : decode cL_law 937 = .ok (.ireturn, 1) := by decide +kernel
theorem dL_law_938 : decode cL_law 938 = .ok (.aload_n 1, 1) := by decide +kernel
theorem dL_law_939 : decode cL_law 939 = .ok (.aload_n 0, 1) := by decide +kernel
theorem dL_law_940 : decode cL_law 940 = .ok (.iload 4, 2) := by decide +kernel
theorem dL_law_942 : decode cL_law 942 = .ok (.iconst 1, 1) := by decide +kernel
theorem dL_law_943 : decode cL_law 943 = .ok (.iadd, 1) := by decide +kernel
theorem dL_law_944 : decode cL_law 944 = .ok (.iaload, 1) := by decide +kernel
theorem dL_law_945 : decode cL_law 945 = .ok (.invokevirtual 111, 3) := by decide +kernel
theorem dL_law_948 : decode cL_law 948 = .ok (.aload_n 2, 1) := by decide +kernel
theorem dL_law_949 : decode cL_law 949 = .ok (.aload_n 0, 1) := by decide +kernel
theorem dL_law_950 : decode cL_law 950 = .ok (.iload 4, 2) := by decide +kernel
theorem dL_law_952 : decode cL_law 952 = .ok (.iconst 1, 1) := by decide +kernel
theorem dL_law_953 : decode cL_law 953 = .ok (.iadd, 1) := by decide +kernel
theorem dL_law_954 : decode cL_law 954 = .ok (.iaload, 1) := by decide +kernel
theorem dL_law_955 : decode cL_law 955 = .ok (.invokevirtual 114, 3) := by decide +kernel
theorem dL_law_958 : decode cL_law 958 = .ok (.if_icmp .eq 223, 3) := by decide +kernel
theorem dL_law_961 : decode cL_law 961 = .ok (.iconst 0, 1) := by decide +kernel
theorem dL_law_962 : decode cL_law 962 = .ok (.ireturn, 1) := by decide +kernel
theorem dL_law_963 : decode cL_law 963 = .ok (.aload_n 1, 1) := by decide +kernel
theorem dL_law_964 : decode cL_law 964 = .ok (.aload_n 0, 1) := by decide +kernel
theorem dL_law_965 : decode cL_law 965 = .ok (.iload 4, 2) := by decide +kernel
theorem dL_law_967 : decode cL_law 967 = .ok (.iconst 1, 1) := by decide +kernel
theorem dL_law_968 : decode cL_law 968 = .ok (.iadd, 1) := by decide +kernel
theorem dL_law_969 : decode cL_law 969 = .ok (.iaload, 1) := by decide +kernel
theorem dL_law_970 : decode cL_law 970 = .ok (.invokevirtual 115, 3) := by decide +kernel
theorem dL_law_973 : decode cL_law 973 = .ok (.aload_n 2, 1) := by decide +kernel
theorem dL_law_974 : decode cL_law 974 = .ok (.aload_n 0, 1) := by decide +kernel
theorem dL_law_975 : decode cL_law 975 = .ok (.iload 4, 2) := by decide +kernel
theorem dL_law_977 : decode cL_law 977 = .ok (.iconst 1, 1) := by decide +kernel
theorem dL_law_978 : decode cL_law 978 = .ok (.iadd, 1) := by decide +kernel
theorem dL_law_979 : decode cL_law 979 = .ok (.iaload, 1) := by decide +kernel
theorem dL_law_980 : decode cL_law 980 = .ok (.invokevirtual 118, 3) := by decide +kernel
theorem dL_law_983 : decode cL_law 983 = .ok (.if_icmp .eq 198, 3) := by decide +kernel
theorem dL_law_986 : decode cL_law 986 = .ok (.iconst 0, 1) := by decide +kernel
theorem dL_law_987 : decode cL_law 987 = .ok (.ireturn, 1) := by decide +kernel
theorem dL_law_988 : decode cL_law 988 = .ok (.aload_n 1, 1) := by decide +kernel
theorem dL_law_989 : decode cL_law 989 = .ok (.aload_n 0, 1) := by decide +kernel
theorem dL_law_990 : decode cL_law 990 = .ok (.iload 4, 2) := by decide +kernel
theorem dL_law_992 : decode cL_law 992 = .ok (.iconst 1, 1) := by decide +kernel
theorem dL_law_993 : decode cL_law 993 = .ok (.iadd, 1) := by decide +kernel
theorem dL_law_994 : decode cL_law 994 = .ok (.iaload, 1) := by decide +kernel
theorem dL_law_995 : decode cL_law 995 = .ok (.invokevirtual 119, 3) := by decide +kernel
theorem dL_law_998 : decode cL_law 998 = .ok (.aload_n 2, 1) := by decide +kernel
theorem dL_law_999 : decode cL_law 999 = .ok (.aload_n 0, 1) := by decide +kernel
theorem dL_law_1000 : decode cL_law 1000 = .ok (.iload 4, 2) := by decide +kernel
theorem dL_law_1002 : decode cL_law 1002 = .ok (.iconst 1, 1) := by decide +kernel
theorem dL_law_1003 : decode cL_law 1003 = .ok (.iadd, 1) := by decide +kernel
theorem dL_law_1004 : decode cL_law 1004 = .ok (.iaload, 1) := by decide +kernel
theorem dL_law_1005 : decode cL_law 1005 = .ok (.invokevirtual 122, 3) := by decide +kernel
theorem dL_law_1008 : decode cL_law 1008 = .ok (.if_icmp .eq 173, 3) := by decide +kernel
theorem dL_law_1011 : decode cL_law 1011 = .ok (.iconst 0, 1) := by decide +kernel
theorem dL_law_1012 : decode cL_law 1012 = .ok (.ireturn, 1) := by decide +kernel
theorem dL_law_1013 : decode cL_law 1013 = .ok (.aload_n 1, 1) := by decide +kernel
theorem dL_law_1014 : decode cL_law 1014 = .ok (.aload_n 0, 1) := by decide +kernel
theorem dL_law_1015 : decode cL_law 1015 = .ok (.iload 4, 2) := by decide +kernel
theorem dL_law_1017 : decode cL_law 1017 = .ok (.iconst 1, 1) := by decide +kernel
theorem dL_law_1018 : decode cL_law 1018 = .ok (.iadd, 1) := by decide +kernel
theorem dL_law_1019 : decode cL_law 1019 = .ok (.iaload, 1) := by decide +kernel
theorem dL_law_1020 : decode cL_law 1020 = .ok (.aload_n 0, 1) := by decide +kernel
theorem dL_law_1021 : decode cL_law 1021 = .ok (.iload 4, 2) := by decide +kernel
theorem dL_law_1023 : decode cL_law 1023 = .ok (.iconst 2, 1) := by decide +kernel
theorem dL_law_1024 : decode cL_law 1024 = .ok (.iadd, 1) := by decide +kernel
theorem dL_law_1025 : decode cL_law 1025 = .ok (.iaload, 1) := by decide +kernel
theorem dL_law_1026 : decode cL_law 1026 = .ok (.aload_n 3, 1) := by decide +kernel
theorem dL_law_1027 : decode cL_law 1027 = .ok (.invokestatic 123, 3) := by decide +kernel
theorem dL_law_1030 : decode cL_law 1030 = .ok (.istore 5, 2) := by decide +kernel
theorem dL_law_1032 : decode cL_law 1032 = .ok (.aload_n 2, 1) := by decide +kernel
theorem dL_law_1033 : decode cL_law 1033 = .ok (.aload_n 0, 1) := by decide +kernel
theorem dL_law_1034 : decode cL_law 1034 = .ok (.iload 4, 2) := by decide +kernel
theorem dL_law_1036 : decode cL_law 1036 = .ok (.iconst 1, 1) := by decide +kernel
theorem dL_law_1037 : decode cL_law 1037 = .ok (.iadd, 1) := by decide +kernel
theorem dL_law_1038 : decode cL_law 1038 = .ok (.iaload, 1) := by decide +kernel
theorem dL_law_1039 : decode cL_law 1039 = .ok (.aload_n 0, 1) := by decide +kernel
theorem dL_law_1040 : decode cL_law 1040 = .ok (.iload 4, 2) := by decide +kernel
theorem dL_law_1042 : decode cL_law 1042 = .ok (.iconst 2, 1) := by decide +kernel
theorem dL_law_1043 : decode cL_law 1043 = .ok (.iadd, 1) := by decide +kernel
theorem dL_law_1044 : decode cL_law 1044 = .ok (.iaload, 1) := by decide +kernel
theorem dL_law_1045 : decode cL_law 1045 = .ok (.invokevirtual 126, 3) := by decide +kernel
theorem dL_law_1048 : decode cL_law 1048 = .ok (.istore 6, 2) := by decide +kernel
theorem dL_law_1050 : decode cL_law 1050 = .ok (.aload_n 2, 1) := by decide +kernel
theorem dL_law_1051 : decode cL_law 1051 = .ok (.invokevirtual 79, 3) := by decide +kernel
theorem dL_law_1054 : decode cL_law 1054 = .ok (.iload 5, 2) := by decide +kernel
theorem dL_law_1056 : decode cL_law 1056 = .ok (.if_icmp .eq 5, 3) := by decide +kernel
theorem dL_law_1059 : decode cL_law 1059 = .ok (.iconst 0, 1) := by decide +kernel
theorem dL_law_1060 : decode cL_law 1060 = .ok (.ireturn, 1) := by decide +kernel
theorem dL_law_1061 : decode cL_law 1061 = .ok (.iload 5, 2) := by decide +kernel
theorem dL_law_1063 : decode cL_law 1063 = .ok (.ifCond .ne 15, 3) := by decide +kernel
theorem dL_law_1066 : decode cL_law 1066 = .ok (.aload_n 3, 1) := by decide +kernel
theorem dL_law_1067 : decode cL_law 1067 = .ok (.iconst 0, 1) := by decide +kernel
theorem dL_law_1068 : decode cL_law 1068 = .ok (.laload, 1) := by decide +kernel
theorem dL_law_1069 : decode cL_law 1069 = .ok (.iload 6, 2) := by decide +kernel
theorem dL_law_1071 : decode cL_law 1071 = .ok (.i2l, 1) := by decide +kernel
theorem dL_law_1072 : decode cL_law 1072 = .ok (.lcmp, 1) := by decide +kernel
theorem dL_law_1073 : decode cL_law 1073 = .ok (.ifCond .eq 5, 3) := by decide +kernel
theorem dL_law_1076 : decode cL_law 1076 = .ok (.iconst 0, 1) := by decide +kernel
theorem dL_law_1077 : decode cL_law 1077 = .ok (.ireturn, 1) := by decide +kernel
theorem dL_law_1078 : decode cL_law 1078 = .ok (.goto 103, 3) := by decide +kernel
theorem dL_law_1081 : decode cL_law 1081 = .ok (.aload_n 1, 1) := by decide +kernel
theorem dL_law_1082 : decode cL_law 1082 = .ok (.invokevirtual 127, 3) := by decide +kernel
theorem dL_law_1085 : decode cL_law 1085 = .ok (.aload_n 2, 1) := by decide +kernel
theorem dL_law_1086 : decode cL_law 1086 = .ok (.invokevirtual 130, 3) := by decide +kernel
theorem dL_law_1089 : decode cL_law 1089 = .ok (.if_icmp .eq 92, 3) := by decide +kernel
theorem dL_law_1092 : decode cL_law 1092 = .ok (.iconst 0, 1) := by decide +kernel
theorem dL_law_1093 : decode cL_law 1093 = .ok (.ireturn, 1) := by decide +kernel
theorem dL_law_1094 : decode cL_law 1094 = .ok (.aload_n 1, 1) := by decide +kernel
theorem dL_law_1095 : decode cL_law 1095 = .ok (.aload_n 0, 1) := by decide +kernel
theorem dL_law_1096 : decode cL_law 1096 = .ok (.iload 4, 2) := by decide +kernel
theorem dL_law_1098 : decode cL_law 1098 = .ok (.iconst 1, 1) := by decide +kernel
theorem dL_law_1099 : decode cL_law 1099 = .ok (.iadd, 1) := by decide +kernel
theorem dL_law_1100 : decode cL_law 1100 = .ok (.iaload, 1) := by decide +kernel
theorem dL_law_1101 : decode cL_law 1101 = .ok (.aload_n 0, 1) := by decide +kernel
theorem dL_law_1102 : decode cL_law 1102 = .ok (.iload 4, 2) := by decide +kernel
theorem dL_law_1104 : decode cL_law 1104 = .ok (.iconst 2, 1) := by decide +kernel
theorem dL_law_1105 : decode cL_law 1105 = .ok (.iadd, 1) := by decide +kernel
theorem dL_law_1106 : decode cL_law 1106 = .ok (.iaload, 1) := by decide +kernel
theorem dL_law_1107 : decode cL_law 1107 = .ok (.invokevirtual 131, 3) := by decide +kernel
theorem dL_law_1110 : decode cL_law 1110 = .ok (.aload_n 2, 1) := by decide +kernel
theorem dL_law_1111 : decode cL_law 1111 = .ok (.aload_n 0, 1) := by decide +kernel
theorem dL_law_1112 : decode cL_law 1112 = .ok (.iload 4, 2) := by decide +kernel
theorem dL_law_1114 : decode cL_law 1114 = .ok (.iconst 1, 1) := by decide +kernel
theorem dL_law_1115 : decode cL_law 1115 = .ok (.iadd, 1) := by decide +kernel
theorem dL_law_1116 : decode cL_law 1116 = .ok (.iaload, 1) := by decide +kernel
theorem dL_law_1117 : decode cL_law 1117 = .ok (.aload_n 0, 1) := by decide +kernel
theorem dL_law_1118 : decode cL_law 1118 = .ok (.iload 4, 2) := by decide +kernel
theorem dL_law_1120 : decode cL_law 1120 = .ok (.iconst 2, 1) := by decide +kernel
theorem dL_law_1121 : decode cL_law 1121 = .ok (.iadd, 1) := by decide +kernel
theorem dL_law_1122 : decode cL_law 1122 = .ok (.iaload, 1) := by decide +kernel
theorem dL_law_1123 : decode cL_law 1123 = .ok (.invokevirtual 134, 3) := by decide +kernel
theorem dL_law_1126 : decode cL_law 1126 = .ok (.if_icmp .eq 55, 3) := by decide +kernel
theorem dL_law_1129 : decode cL_law 1129 = .ok (.iconst 0, 1) := by decide +kernel
theorem dL_law_1130 : decode cL_law 1130 = .ok (.ireturn, 1) := by decide +kernel
theorem dL_law_1131 : decode cL_law 1131 = .ok (.aload_n 1, 1) := by decide +kernel
theorem dL_law_1132 : decode cL_law 1132 = .ok (.aload_n 0, 1) := by decide +kernel
theorem dL_law_1133 : decode cL_law 1133 = .ok (.iload 4, 2) := by decide +kernel
theorem dL_law_1135 : decode cL_law 1135 = .ok (.iconst 1, 1) := by decide +kernel
theorem dL_law_1136 : decode cL_law 1136 = .ok (.iadd, 1) := by decide +kernel
theorem dL_law_1137 : decode cL_law 1137 = .ok (.iaload, 1) := by decide +kernel
theorem dL_law_1138 : decode cL_law 1138 = .ok (.invokevirtual 135, 3) := by decide +kernel
theorem dL_law_1141 : decode cL_law 1141 = .ok (.aload_n 2, 1) := by decide +kernel
theorem dL_law_1142 : decode cL_law 1142 = .ok (.aload_n 0, 1) := by decide +kernel
theorem dL_law_1143 : decode cL_law 1143 = .ok (.iload 4, 2) := by decide +kernel
theorem dL_law_1145 : decode cL_law 1145 = .ok (.iconst 1, 1) := by decide +kernel
theorem dL_law_1146 : decode cL_law 1146 = .ok (.iadd, 1) := by decide +kernel
theorem dL_law_1147 : decode cL_law 1147 = .ok (.iaload, 1) := by decide +kernel
theorem dL_law_1148 : decode cL_law 1148 = .ok (.invokevirtual 138, 3) := by decide +kernel
theorem dL_law_1151 : decode cL_law 1151 = .ok (.if_icmp .eq 30, 3) := by decide +kernel
theorem dL_law_1154 : decode cL_law 1154 = .ok (.iconst 0, 1) := by decide +kernel
theorem dL_law_1155 : decode cL_law 1155 = .ok (.ireturn, 1) := by decide +kernel
theorem dL_law_1156 : decode cL_law 1156 = .ok (.aload_n 1, 1) := by decide +kernel
theorem dL_law_1157 : decode cL_law 1157 = .ok (.aload_n 0, 1) := by decide +kernel
theorem dL_law_1158 : decode cL_law 1158 = .ok (.iload 4, 2) := by decide +kernel
theorem dL_law_1160 : decode cL_law 1160 = .ok (.iconst 1, 1) := by decide +kernel
theorem dL_law_1161 : decode cL_law 1161 = .ok (.iadd, 1) := by decide +kernel
theorem dL_law_1162 : decode cL_law 1162 = .ok (.iaload, 1) := by decide +kernel
theorem dL_law_1163 : decode cL_law 1163 = .ok (.invokevirtual 139, 3) := by decide +kernel
theorem dL_law_1166 : decode cL_law 1166 = .ok (.aload_n 2, 1) := by decide +kernel
theorem dL_law_1167 : decode cL_law 1167 = .ok (.aload_n 0, 1) := by decide +kernel
theorem dL_law_1168 : decode cL_law 1168 = .ok (.iload 4, 2) := by decide +kernel
theorem dL_law_1170 : decode cL_law 1170 = .ok (.iconst 1, 1) := by decide +kernel
theorem dL_law_1171 : decode cL_law 1171 = .ok (.iadd, 1) := by decide +kernel
theorem dL_law_1172 : decode cL_law 1172 = .ok (.iaload, 1) := by decide +kernel
theorem dL_law_1173 : decode cL_law 1173 = .ok (.invokevirtual 142, 3) := by decide +kernel
theorem dL_law_1176 : decode cL_law 1176 = .ok (.if_icmp .eq 5, 3) := by decide +kernel
theorem dL_law_1179 : decode cL_law 1179 = .ok (.iconst 0, 1) := by decide +kernel
theorem dL_law_1180 : decode cL_law 1180 = .ok (.ireturn, 1) := by decide +kernel
theorem dL_law_1181 : decode cL_law 1181 = .ok (.iinc 4 6, 3) := by decide +kernel
theorem dL_law_1184 : decode cL_law 1184 = .ok (.goto (-1161), 3) := by decide +kernel
theorem dL_law_1187 : decode cL_law 1187 = .ok (.iconst 1, 1) := by decide +kernel
theorem dL_law_1188 : decode cL_law 1188 = .ok (.ireturn, 1) := by decide +kernel
abbrev mL_law : xMT := (yL_law, cL_law, 7, some .boolean, false)
variable {G : xG} {l : Launch} {d mc ms pc bc bs : Nat} {z : Bool} {mt : xMT} {Q : Option Value → List xLay → xMem → Prop} {ll : xLL} {st : List Value} {lay : List xLay} {μ : xMem} {N i : Int}
theorem RR.less {bc' bs' : Nat} (h : RR G l d mc ms z mt Q pc ll st lay μ bc' bs') (h1 : bc' ≤ bc) (h2 : bs' ≤ bs) : RR G l d mc ms z mt Q pc ll st lay μ bc bs := by
  intro p e s m args below meth c hC H locs cells slots ls hz hP hS g1 g2 hl
  exact h p e s m args below meth c hC H locs cells slots ls hz hP hS (by omega) (by omega) hl
theorem xScr_R (G : xG) (j : Nat) : iR (xScr G j) := by
  have h1 := Int32.le_toInt (Int32.ofNat (G.2.2.2 (5 + j)))
  have h2 := Int32.toInt_lt (Int32.ofNat (G.2.2.2 (5 + j)))
  unfold xScr
  omega
theorem xr_scr {j : Int} (hd : decode mt.2.1 pc = .ok (.iaload, 1)) (hL : G.2.2.2 4 ≤ 3072) (hj : 0 ≤ j ∧ j < (G.2.2.2 4 : Int)) (K : RR G l d mc ms z mt Q (pc + 1) ll (xi (xScr G j.toNat) :: st) lay μ bc bs) : RR G l d mc ms z mt Q pc ll (xi j :: .ref (G.2.2.2 3) :: st) lay μ bc bs := by
  intro p e s m args below meth c hC H locs cells slots ls hz hP hS h1 h2 hl
  have K1 := K p e s m args below meth c hC H locs cells slots ls hz hP hS h1 h2 hl
  obtain ⟨a1, a2⟩ := x_in (n := G.2.2.2 4) hj (by omega)
  obtain ⟨hx9, hb, -, -, hown, hts, -, -, hK, hN, hT, hB⟩ := hC
  exact va_ti hx9 hb hT.2.2.2.2.2.2.2.2 hS a1 (by rw [a2]) hd K1
theorem xr_scrlen (hd : decode mt.2.1 pc = .ok (.arraylength, 1)) (K : RR G l d mc ms z mt Q (pc + 1) ll (xi (G.2.2.2 4 : Int) :: st) lay μ bc bs) : RR G l d mc ms z mt Q pc ll (.ref (G.2.2.2 3) :: st) lay μ bc bs := by
  intro p e s m args below meth c hC H locs cells slots ls hz hP hS h1 h2 hl
  have K1 := K p e s m args below meth c hC H locs cells slots ls hz hP hS h1 h2 hl
  obtain ⟨hx9, hb, -, -, hown, hts, -, -, hK, hN, hT, hB⟩ := hC
  exact va_tlen hx9 hb hT.2.2.2.2.2.2.2.2 hS (v := Int32.ofInt (G.2.2.2 4 : Int)) rfl hd K1
/-- script[i + j] -/
theorem xl_arg {j : Int} (d0 : decode mt.2.1 pc = .ok (.aload_n 0, 1)) (d1 : decode mt.2.1 (pc + 1) = .ok (.iload 4, 2)) (d3 : decode mt.2.1 (pc + 1 + 2) = .ok (.iconst j, 1)) (d4 : decode mt.2.1 (pc + 1 + 2 + 1) = .ok (.iadd, 1)) (d5 : decode mt.2.1 (pc + 1 + 2 + 1 + 1) = .ok (.iaload, 1)) (h0 : ll[0]? = some (some (.ref (G.2.2.2 3)))) (h4 : ll[4]? = some (some (xi i))) (hL : G.2.2.2 4 ≤ 3072) (hj : 0 ≤ i + j ∧ i + j < (G.2.2.2 4 : Int))
    (K : RR G l d mc ms z mt Q (pc + 1 + 2 + 1 + 1 + 1) ll (xi (xScr G (i + j).toNat) :: st) lay μ bc bs) : RR G l d mc ms z mt Q pc ll st lay μ bc bs :=
  xr_aloadA d0 h0 (xr_iload d1 h4 (xr_iconst d3 (xr_iadd d4 (xr_scr d5 hL hj K))))
def qL1 : Option Value → List xLay → xMem → Prop := fun r _ _ => r = some (xi 1)
def lll (G : xG) (i : Int) : xLL := [some (.ref (G.2.2.2 3)), some (xr G 0), some (xr G 74), some (xr G 130), some (xi i), none, none]
def KL (G : xG) (l : Launch) (i : Int) (μ : xMem) (bc bs : Nat) : Prop := RR G l 1312 601024 7293033 false mL_law qL1 23 (lll G i) [] LAY μ bc bs
theorem xl_next {ll : xLL} (h4 : ll[4]? = some (some (xi i))) (hk : x_chk ll 4 = true) (hs : subLL (lll G (i + 6)) (ll.set 4 (some (xi (i + 6))))) (K : KL G l (i + 6) μ bc bs) : RR G l 1312 601024 7293033 false mL_law qL1 1181 ll [] LAY μ bc bs := by
  refine xr_iinc dL_law_1181 h4 (by decide) hk ?_
  refine xr_goto (tgt := 23) dL_law_1184 (by decide) ?_
  exact xr_wk hs K
theorem ls_octet : Cond.static mL_octet.1 ∈ xTs := xin5 129 (by decide +kernel) (by decide +kernel)
theorem lw_octet : Cond.codeWith mL_octet.1 mL_octet.2.1 mL_octet.2.2.1 mL_octet.2.2.2.1 [(0, 9, 12, 13)] ∈ xTs := xin5 130 (by decide +kernel) (by decide +kernel)
theorem li_octet : Cond.initialized mL_octet.1.cls ∈ xTs := xin1 0 (by decide +kernel) (by decide +kernel)
theorem ls_told : Cond.static mL_told.1 ∈ xTs := xin5 198 (by decide +kernel) (by decide +kernel)
theorem lw_told : Cond.codeWith mL_told.1 mL_told.2.1 mL_told.2.2.1 mL_told.2.2.2.1 [(0, 10, 13, 13)] ∈ xTs := xin5 199 (by decide +kernel) (by decide +kernel)
theorem li_told : Cond.initialized mL_told.1.cls ∈ xTs := xin1 0 (by decide +kernel) (by decide +kernel)
set_option maxRecDepth 20000 in
theorem lc_0 (hl : l.stackTraces = false) (hI : INV N μ) (hN9 : 0 ≤ N ∧ N ≤ 600) (hi : 0 ≤ i) (hL : i + 6 ≤ (G.2.2.2 4 : Int)) (hL2 : G.2.2.2 4 ≤ 3072) (hb : 1 ≤ bc ∧ 6 ≤ bs) (K : ∀ μ', INV (N + 1) μ' → KL G l (i + 6) μ' (bc - 1) (bs - 6)) : RR G l 1312 601024 7293033 false mL_law qL1 164 (lll G i) [] LAY μ bc bs := by
  have hK0 : ∀ μ', INV (N + 1) μ' → KL G l (i + 6) μ' bc bs := fun μ' h => (K μ' h).less (by omega) (by omega)
  have sim : SIM G l 1311 mX11_feed mX12_feed [xi (xScr G (i + 1).toNat), xi (xScr G (i + 2).toNat), xi (xScr G (i + 3).toNat), xi (xScr G (i + 4).toNat), xi (xScr G (i + 5).toNat)] N μ := op_feed (G := G) (l := l) (d := 1251) hI  (xScr_R G (i + 1).toNat) (xScr_R G (i + 2).toNat) (xScr_R G (i + 3).toNat) (xScr_R G (i + 4).toNat) (xScr_R G (i + 5).toNat)
  refine xr_aload_n dL_law_164 rfl ?_
  refine xl_arg (j := 1) dL_law_165 dL_law_166 dL_law_168 dL_law_169 dL_law_170 rfl rfl hL2 (by omega) ?_
  refine xl_arg (j := 2) dL_law_171 dL_law_172 dL_law_174 dL_law_175 dL_law_176 rfl rfl hL2 (by omega) ?_
  refine xl_arg (j := 3) dL_law_177 dL_law_178 dL_law_180 dL_law_181 dL_law_182 rfl rfl hL2 (by omega) ?_
  refine xl_arg (j := 4) dL_law_183 dL_law_184 dL_law_186 dL_law_187 dL_law_188 rfl rfl hL2 (by omega) ?_
  refine xl_arg (j := 5) dL_law_189 dL_law_190 dL_law_192 dL_law_193 dL_law_194 rfl rfl hL2 (by omega) ?_
  refine xr_callV (As := [xi (xScr G (i + 1).toNat), xi (xScr G (i + 2).toNat), xi (xScr G (i + 3).toNat), xi (xScr G (i + 4).toNat), xi (xScr G (i + 5).toNat)]) (d' := 1311) (mc' := 0) (ms' := 0) dL_law_195 mi_X11_feed ml_L_23 se_X11_feed L_0 rfl rfl rfl (Nat.le_of_ble_eq_true rfl) (by decide) (Nat.zero_le _) (Nat.zero_le _) sim ?_
  rintro r1 lay' m1 ⟨rfl, x1, rfl, hx1, sim2⟩
  refine xr_aload_n dL_law_198 rfl ?_
  refine xl_arg (j := 1) dL_law_199 dL_law_200 dL_law_202 dL_law_203 dL_law_204 rfl rfl hL2 (by omega) ?_
  refine xl_arg (j := 2) dL_law_205 dL_law_206 dL_law_208 dL_law_209 dL_law_210 rfl rfl hL2 (by omega) ?_
  refine xl_arg (j := 3) dL_law_211 dL_law_212 dL_law_214 dL_law_215 dL_law_216 rfl rfl hL2 (by omega) ?_
  refine xl_arg (j := 4) dL_law_217 dL_law_218 dL_law_220 dL_law_221 dL_law_222 rfl rfl hL2 (by omega) ?_
  refine xl_arg (j := 5) dL_law_223 dL_law_224 dL_law_226 dL_law_227 dL_law_228 rfl rfl hL2 (by omega) ?_
  refine xr_callV (As := [xi (xScr G (i + 1).toNat), xi (xScr G (i + 2).toNat), xi (xScr G (i + 3).toNat), xi (xScr G (i + 4).toNat), xi (xScr G (i + 5).toNat)]) (d' := 1311) (mc' := 0) (ms' := 0) dL_law_229 mi_X12_feed ml_L_27 se_X12_feed L_74 rfl rfl rfl (Nat.le_of_ble_eq_true rfl) (by decide) (Nat.zero_le _) (Nat.zero_le _) sim2 ?_
  rintro r2 lay' m2 ⟨rfl, x2, rfl, hx2, e, hI2⟩
  exact xr_icmp_eq (tgt := 1181) dL_law_232 (by decide) hx1 hx2 (fun _ => xl_next rfl rfl ⟨rfl, rfl, rfl, rfl, rfl, trivial⟩ (hK0 m2 hI2)) (fun c => absurd e c)
set_option maxRecDepth 20000 in
theorem lc_1 (hl : l.stackTraces = false) (hI : INV N μ) (hN9 : 0 ≤ N ∧ N ≤ 600) (hi : 0 ≤ i) (hL : i + 6 ≤ (G.2.2.2 4 : Int)) (hL2 : G.2.2.2 4 ≤ 3072) (hb : 1 ≤ bc ∧ 6 ≤ bs) (K : ∀ μ', INV (N + 1) μ' → KL G l (i + 6) μ' (bc - 1) (bs - 6)) : RR G l 1312 601024 7293033 false mL_law qL1 237 (lll G i) [] LAY μ bc bs := by
  have hK0 : ∀ μ', INV (N + 1) μ' → KL G l (i + 6) μ' bc bs := fun μ' h => (K μ' h).less (by omega) (by omega)
  have sim : SIM G l 1311 mX11_end mX12_end [xi (xScr G (i + 1).toNat)] N μ := op_end (G := G) (l := l) (d := 1251) hI  (xScr_R G (i + 1).toNat)
  refine xr_aload_n dL_law_237 rfl ?_
  refine xl_arg (j := 1) dL_law_238 dL_law_239 dL_law_241 dL_law_242 dL_law_243 rfl rfl hL2 (by omega) ?_
  refine xr_callV (As := [xi (xScr G (i + 1).toNat)]) (d' := 1311) (mc' := 0) (ms' := 0) dL_law_244 mi_X11_end ml_L_28 se_X11_end L_0 rfl rfl rfl (Nat.le_of_ble_eq_true rfl) (by decide) (Nat.zero_le _) (Nat.zero_le _) sim ?_
  rintro r1 lay' m1 ⟨rfl, x1, rfl, hx1, sim2⟩
  refine xr_aload_n dL_law_247 rfl ?_
  refine xl_arg (j := 1) dL_law_248 dL_law_249 dL_law_251 dL_law_252 dL_law_253 rfl rfl hL2 (by omega) ?_
  refine xr_callV (As := [xi (xScr G (i + 1).toNat)]) (d' := 1311) (mc' := 0) (ms' := 0) dL_law_254 mi_X12_end ml_L_32 se_X12_end L_74 rfl rfl rfl (Nat.le_of_ble_eq_true rfl) (by decide) (Nat.zero_le _) (Nat.zero_le _) sim2 ?_
  rintro r2 lay' m2 ⟨rfl, x2, rfl, hx2, e, hI2⟩
  exact xr_icmp_eq (tgt := 1181) dL_law_257 (by decide) hx1 hx2 (fun _ => xl_next rfl rfl ⟨rfl, rfl, rfl, rfl, rfl, trivial⟩ (hK0 m2 hI2)) (fun c => absurd e c)
set_option maxRecDepth 20000 in
theorem lc_2 (hl : l.stackTraces = false) (hI : INV N μ) (hN9 : 0 ≤ N ∧ N ≤ 600) (hi : 0 ≤ i) (hL : i + 6 ≤ (G.2.2.2 4 : Int)) (hL2 : G.2.2.2 4 ≤ 3072) (hb : 1 ≤ bc ∧ 6 ≤ bs) (K : ∀ μ', INV (N + 1) μ' → KL G l (i + 6) μ' (bc - 1) (bs - 6)) : RR G l 1312 601024 7293033 false mL_law qL1 262 (lll G i) [] LAY μ bc bs := by
  have hK0 : ∀ μ', INV (N + 1) μ' → KL G l (i + 6) μ' bc bs := fun μ' h => (K μ' h).less (by omega) (by omega)
  have sim : SIM G l 1311 mX11_next mX12_next [xi (xScr G (i + 1).toNat)] N μ := op_next (G := G) (l := l) (d := 1251) hI  (xScr_R G (i + 1).toNat)
  refine xr_aload_n dL_law_262 rfl ?_
  refine xl_arg (j := 1) dL_law_263 dL_law_264 dL_law_266 dL_law_267 dL_law_268 rfl rfl hL2 (by omega) ?_
  refine xr_callV (As := [xi (xScr G (i + 1).toNat)]) (d' := 1311) (mc' := 0) (ms' := 0) dL_law_269 mi_X11_next ml_L_33 se_X11_next L_0 rfl rfl rfl (Nat.le_of_ble_eq_true rfl) (by decide) (Nat.zero_le _) (Nat.zero_le _) sim ?_
  rintro r1 lay' m1 ⟨rfl, x1, rfl, hx1, sim2⟩
  refine xr_aload_n dL_law_272 rfl ?_
  refine xl_arg (j := 1) dL_law_273 dL_law_274 dL_law_276 dL_law_277 dL_law_278 rfl rfl hL2 (by omega) ?_
  refine xr_callV (As := [xi (xScr G (i + 1).toNat)]) (d' := 1311) (mc' := 0) (ms' := 0) dL_law_279 mi_X12_next ml_L_36 se_X12_next L_74 rfl rfl rfl (Nat.le_of_ble_eq_true rfl) (by decide) (Nat.zero_le _) (Nat.zero_le _) sim2 ?_
  rintro r2 lay' m2 ⟨rfl, x2, rfl, hx2, e, hI2⟩
  exact xr_icmp_eq (tgt := 1181) dL_law_282 (by decide) hx1 hx2 (fun _ => xl_next rfl rfl ⟨rfl, rfl, rfl, rfl, rfl, trivial⟩ (hK0 m2 hI2)) (fun c => absurd e c)
set_option maxRecDepth 20000 in
theorem lc_3 (hl : l.stackTraces = false) (hI : INV N μ) (hN9 : 0 ≤ N ∧ N ≤ 600) (hi : 0 ≤ i) (hL : i + 6 ≤ (G.2.2.2 4 : Int)) (hL2 : G.2.2.2 4 ≤ 3072) (hb : 1 ≤ bc ∧ 6 ≤ bs) (K : ∀ μ', INV (N + 1) μ' → KL G l (i + 6) μ' (bc - 1) (bs - 6)) : RR G l 1312 601024 7293033 false mL_law qL1 287 (lll G i) [] LAY μ bc bs := by
  have hK0 : ∀ μ', INV (N + 1) μ' → KL G l (i + 6) μ' bc bs := fun μ' h => (K μ' h).less (by omega) (by omega)
  have sim : SIM G l 1311 mX11_word mX12_word [] N μ := op_word (G := G) (l := l) (d := 1251) hI hN9 
  refine xr_aload_n dL_law_287 rfl ?_
  refine xr_callV (As := []) (d' := 1311) (mc' := 0) (ms' := 0) dL_law_288 mi_X11_word ml_L_37 se_X11_word L_0 rfl rfl rfl (Nat.le_of_ble_eq_true rfl) (by decide) (Nat.zero_le _) (Nat.zero_le _) sim ?_
  rintro r1 lay' m1 ⟨rfl, x1, rfl, hx1, sim2⟩
  refine xr_aload_n dL_law_291 rfl ?_
  refine xr_callV (As := []) (d' := 1311) (mc' := 0) (ms' := 0) dL_law_292 mi_X12_word ml_L_41 se_X12_word L_74 rfl rfl rfl (Nat.le_of_ble_eq_true rfl) (by decide) (Nat.zero_le _) (Nat.zero_le _) sim2 ?_
  rintro r2 lay' m2 ⟨rfl, x2, rfl, hx2, e, hI2⟩
  exact xr_icmp_eq (tgt := 1181) dL_law_295 (by decide) hx1 hx2 (fun _ => xl_next rfl rfl ⟨rfl, rfl, rfl, rfl, rfl, trivial⟩ (hK0 m2 hI2)) (fun c => absurd e c)
set_option maxRecDepth 20000 in
theorem lc_4 (hl : l.stackTraces = false) (hI : INV N μ) (hN9 : 0 ≤ N ∧ N ≤ 600) (hi : 0 ≤ i) (hL : i + 6 ≤ (G.2.2.2 4 : Int)) (hL2 : G.2.2.2 4 ≤ 3072) (hb : 1 ≤ bc ∧ 6 ≤ bs) (K : ∀ μ', INV (N + 1) μ' → KL G l (i + 6) μ' (bc - 1) (bs - 6)) : RR G l 1312 601024 7293033 false mL_law qL1 300 (lll G i) [] LAY μ bc bs := by
  have hK0 : ∀ μ', INV (N + 1) μ' → KL G l (i + 6) μ' bc bs := fun μ' h => (K μ' h).less (by omega) (by omega)
  have sim : SIM G l 1311 mX11_means mX12_means [xi (xScr G (i + 1).toNat), xi (xScr G (i + 2).toNat)] N μ := op_means (G := G) (l := l) (d := 1251) hI hN9 (xScr_R G (i + 1).toNat) (xScr_R G (i + 2).toNat)
  refine xr_aload_n dL_law_300 rfl ?_
  refine xl_arg (j := 1) dL_law_301 dL_law_302 dL_law_304 dL_law_305 dL_law_306 rfl rfl hL2 (by omega) ?_
  refine xl_arg (j := 2) dL_law_307 dL_law_308 dL_law_310 dL_law_311 dL_law_312 rfl rfl hL2 (by omega) ?_
  refine xr_callV (As := [xi (xScr G (i + 1).toNat), xi (xScr G (i + 2).toNat)]) (d' := 1311) (mc' := 0) (ms' := 0) dL_law_313 mi_X11_means ml_L_42 se_X11_means L_0 rfl rfl rfl (Nat.le_of_ble_eq_true rfl) (by decide) (Nat.zero_le _) (Nat.zero_le _) sim ?_
  rintro r1 lay' m1 ⟨rfl, x1, rfl, hx1, sim2⟩
  refine xr_aload_n dL_law_316 rfl ?_
  refine xl_arg (j := 1) dL_law_317 dL_law_318 dL_law_320 dL_law_321 dL_law_322 rfl rfl hL2 (by omega) ?_
  refine xl_arg (j := 2) dL_law_323 dL_law_324 dL_law_326 dL_law_327 dL_law_328 rfl rfl hL2 (by omega) ?_
  refine xr_callV (As := [xi (xScr G (i + 1).toNat), xi (xScr G (i + 2).toNat)]) (d' := 1311) (mc' := 0) (ms' := 0) dL_law_329 mi_X12_means ml_L_46 se_X12_means L_74 rfl rfl rfl (Nat.le_of_ble_eq_true rfl) (by decide) (Nat.zero_le _) (Nat.zero_le _) sim2 ?_
  rintro r2 lay' m2 ⟨rfl, x2, rfl, hx2, e, hI2⟩
  exact xr_icmp_eq (tgt := 1181) dL_law_332 (by decide) hx1 hx2 (fun _ => xl_next rfl rfl ⟨rfl, rfl, rfl, rfl, rfl, trivial⟩ (hK0 m2 hI2)) (fun c => absurd e c)
set_option maxRecDepth 20000 in
theorem lc_5 (hl : l.stackTraces = false) (hI : INV N μ) (hN9 : 0 ≤ N ∧ N ≤ 600) (hi : 0 ≤ i) (hL : i + 6 ≤ (G.2.2.2 4 : Int)) (hL2 : G.2.2.2 4 ≤ 3072) (hb : 1 ≤ bc ∧ 6 ≤ bs) (K : ∀ μ', INV (N + 1) μ' → KL G l (i + 6) μ' (bc - 1) (bs - 6)) : RR G l 1312 601024 7293033 false mL_law qL1 337 (lll G i) [] LAY μ bc bs := by
  have hK0 : ∀ μ', INV (N + 1) μ' → KL G l (i + 6) μ' bc bs := fun μ' h => (K μ' h).less (by omega) (by omega)
  have sim : SIM G l 1311 mX11_sign mX12_sign [xi (xScr G (i + 1).toNat), xi (xScr G (i + 2).toNat)] N μ := op_sign (G := G) (l := l) (d := 1251) hI hN9 (xScr_R G (i + 1).toNat) (xScr_R G (i + 2).toNat)
  refine xr_aload_n dL_law_337 rfl ?_
  refine xl_arg (j := 1) dL_law_338 dL_law_339 dL_law_341 dL_law_342 dL_law_343 rfl rfl hL2 (by omega) ?_
  refine xl_arg (j := 2) dL_law_344 dL_law_345 dL_law_347 dL_law_348 dL_law_349 rfl rfl hL2 (by omega) ?_
  refine xr_callV (As := [xi (xScr G (i + 1).toNat), xi (xScr G (i + 2).toNat)]) (d' := 1311) (mc' := 0) (ms' := 0) dL_law_350 mi_X11_sign ml_L_47 se_X11_sign L_0 rfl rfl rfl (Nat.le_of_ble_eq_true rfl) (by decide) (Nat.zero_le _) (Nat.zero_le _) sim ?_
  rintro r1 lay' m1 ⟨rfl, x1, rfl, hx1, sim2⟩
  refine xr_aload_n dL_law_353 rfl ?_
  refine xl_arg (j := 1) dL_law_354 dL_law_355 dL_law_357 dL_law_358 dL_law_359 rfl rfl hL2 (by omega) ?_
  refine xl_arg (j := 2) dL_law_360 dL_law_361 dL_law_363 dL_law_364 dL_law_365 rfl rfl hL2 (by omega) ?_
  refine xr_callV (As := [xi (xScr G (i + 1).toNat), xi (xScr G (i + 2).toNat)]) (d' := 1311) (mc' := 0) (ms' := 0) dL_law_366 mi_X12_sign ml_L_50 se_X12_sign L_74 rfl rfl rfl (Nat.le_of_ble_eq_true rfl) (by decide) (Nat.zero_le _) (Nat.zero_le _) sim2 ?_
  rintro r2 lay' m2 ⟨rfl, x2, rfl, hx2, e, hI2⟩
  exact xr_icmp_eq (tgt := 1181) dL_law_369 (by decide) hx1 hx2 (fun _ => xl_next rfl rfl ⟨rfl, rfl, rfl, rfl, rfl, trivial⟩ (hK0 m2 hI2)) (fun c => absurd e c)
set_option maxRecDepth 20000 in
theorem lc_6 (hl : l.stackTraces = false) (hI : INV N μ) (hN9 : 0 ≤ N ∧ N ≤ 600) (hi : 0 ≤ i) (hL : i + 6 ≤ (G.2.2.2 4 : Int)) (hL2 : G.2.2.2 4 ≤ 3072) (hb : 1 ≤ bc ∧ 6 ≤ bs) (K : ∀ μ', INV (N + 1) μ' → KL G l (i + 6) μ' (bc - 1) (bs - 6)) : RR G l 1312 601024 7293033 false mL_law qL1 374 (lll G i) [] LAY μ bc bs := by
  have hK0 : ∀ μ', INV (N + 1) μ' → KL G l (i + 6) μ' bc bs := fun μ' h => (K μ' h).less (by omega) (by omega)
  have sim : SIM G l 1311 mX11_clue mX12_clue [xi (xScr G (i + 1).toNat), xi (xScr G (i + 2).toNat)] N μ := op_clue (G := G) (l := l) (d := 1251) hI hN9 (xScr_R G (i + 1).toNat) (xScr_R G (i + 2).toNat)
  refine xr_aload_n dL_law_374 rfl ?_
  refine xl_arg (j := 1) dL_law_375 dL_law_376 dL_law_378 dL_law_379 dL_law_380 rfl rfl hL2 (by omega) ?_
  refine xl_arg (j := 2) dL_law_381 dL_law_382 dL_law_384 dL_law_385 dL_law_386 rfl rfl hL2 (by omega) ?_
  refine xr_callV (As := [xi (xScr G (i + 1).toNat), xi (xScr G (i + 2).toNat)]) (d' := 1311) (mc' := 0) (ms' := 0) dL_law_387 mi_X11_clue ml_L_51 se_X11_clue L_0 rfl rfl rfl (Nat.le_of_ble_eq_true rfl) (by decide) (Nat.zero_le _) (Nat.zero_le _) sim ?_
  rintro r1 lay' m1 ⟨rfl, x1, rfl, hx1, sim2⟩
  refine xr_aload_n dL_law_390 rfl ?_
  refine xl_arg (j := 1) dL_law_391 dL_law_392 dL_law_394 dL_law_395 dL_law_396 rfl rfl hL2 (by omega) ?_
  refine xl_arg (j := 2) dL_law_397 dL_law_398 dL_law_400 dL_law_401 dL_law_402 rfl rfl hL2 (by omega) ?_
  refine xr_callV (As := [xi (xScr G (i + 1).toNat), xi (xScr G (i + 2).toNat)]) (d' := 1311) (mc' := 0) (ms' := 0) dL_law_403 mi_X12_clue ml_L_54 se_X12_clue L_74 rfl rfl rfl (Nat.le_of_ble_eq_true rfl) (by decide) (Nat.zero_le _) (Nat.zero_le _) sim2 ?_
  rintro r2 lay' m2 ⟨rfl, x2, rfl, hx2, e, hI2⟩
  exact xr_icmp_eq (tgt := 1181) dL_law_406 (by decide) hx1 hx2 (fun _ => xl_next rfl rfl ⟨rfl, rfl, rfl, rfl, rfl, trivial⟩ (hK0 m2 hI2)) (fun c => absurd e c)
set_option maxRecDepth 20000 in
theorem lc_7 (hl : l.stackTraces = false) (hI : INV N μ) (hN9 : 0 ≤ N ∧ N ≤ 600) (hi : 0 ≤ i) (hL : i + 6 ≤ (G.2.2.2 4 : Int)) (hL2 : G.2.2.2 4 ≤ 3072) (hb : 1 ≤ bc ∧ 6 ≤ bs) (K : ∀ μ', INV (N + 1) μ' → KL G l (i + 6) μ' (bc - 1) (bs - 6)) : RR G l 1312 601024 7293033 false mL_law qL1 411 (lll G i) [] LAY μ bc bs := by
  have hK0 : ∀ μ', INV (N + 1) μ' → KL G l (i + 6) μ' bc bs := fun μ' h => (K μ' h).less (by omega) (by omega)
  have r4 := xScr_R G (i + 4).toNat
  refine xr_aload_n dL_law_411 rfl ?_
  refine xl_arg (j := 1) dL_law_412 dL_law_413 dL_law_415 dL_law_416 dL_law_417 rfl rfl hL2 (by omega) ?_
  refine xl_arg (j := 2) dL_law_418 dL_law_419 dL_law_421 dL_law_422 dL_law_423 rfl rfl hL2 (by omega) ?_
  refine xl_arg (j := 3) dL_law_424 dL_law_425 dL_law_427 dL_law_428 dL_law_429 rfl rfl hL2 (by omega) ?_
  refine xl_arg (j := 4) dL_law_430 dL_law_431 dL_law_433 dL_law_434 dL_law_435 rfl rfl hL2 (by omega) ?_
  have go : ∀ b : Int, (b = 0 ∨ b = 1) → (b = if xScr G (i + 4).toNat = 0 then 0 else 1) → RR G l 1312 601024 7293033 false mL_law qL1 444 (lll G i) [xi b, xi (xScr G (i + 3).toNat), xi (xScr G (i + 2).toNat), xi (xScr G (i + 1).toNat), xr G 0] LAY μ bc bs := by
    intro b hb01 hbe
    have sim : SIM G l 1311 mX11_light mX12_light [xi (xScr G (i + 1).toNat), xi (xScr G (i + 2).toNat), xi (xScr G (i + 3).toNat), xi b] N μ := op_light (G := G) (l := l) (d := 1251) hI  (xScr_R G (i + 1).toNat) (xScr_R G (i + 2).toNat) (xScr_R G (i + 3).toNat) hb01
    refine xr_callV (As := [xi (xScr G (i + 1).toNat), xi (xScr G (i + 2).toNat), xi (xScr G (i + 3).toNat), xi b]) (d' := 1311) (mc' := 0) (ms' := 0) dL_law_444 mi_X11_light ml_L_55 se_X11_light L_0 rfl rfl rfl (Nat.le_of_ble_eq_true rfl) (by decide) (Nat.zero_le _) (Nat.zero_le _) sim ?_
    rintro r1 lay' m1 ⟨rfl, x1, rfl, hx1, sim2⟩
    refine xr_aload_n dL_law_447 rfl ?_
    refine xl_arg (j := 1) dL_law_448 dL_law_449 dL_law_451 dL_law_452 dL_law_453 rfl rfl hL2 (by omega) ?_
    refine xl_arg (j := 2) dL_law_454 dL_law_455 dL_law_457 dL_law_458 dL_law_459 rfl rfl hL2 (by omega) ?_
    refine xl_arg (j := 3) dL_law_460 dL_law_461 dL_law_463 dL_law_464 dL_law_465 rfl rfl hL2 (by omega) ?_
    refine xl_arg (j := 4) dL_law_466 dL_law_467 dL_law_469 dL_law_470 dL_law_471 rfl rfl hL2 (by omega) ?_
    have fin : RR G l 1312 601024 7293033 false mL_law qL1 480 (lll G i) [xi b, xi (xScr G (i + 3).toNat), xi (xScr G (i + 2).toNat), xi (xScr G (i + 1).toNat), xr G 74, xi x1] LAY m1 bc bs := by
      refine xr_callV (As := [xi (xScr G (i + 1).toNat), xi (xScr G (i + 2).toNat), xi (xScr G (i + 3).toNat), xi b]) (d' := 1311) (mc' := 0) (ms' := 0) dL_law_480 mi_X12_light ml_L_59 se_X12_light L_74 rfl rfl rfl (Nat.le_of_ble_eq_true rfl) (by decide) (Nat.zero_le _) (Nat.zero_le _) sim2 ?_
      rintro r2 lay' m2 ⟨rfl, x2, rfl, hx2, e, hI2⟩
      exact xr_icmp_eq (tgt := 1181) dL_law_483 (by decide) hx1 hx2 (fun _ => xl_next rfl rfl ⟨rfl, rfl, rfl, rfl, rfl, trivial⟩ (hK0 m2 hI2)) (fun c => absurd e c)
    refine xr_if_eq (tgt := 479) dL_law_472 (by decide) r4 (fun c => ?_) (fun c => ?_)
    · rw [if_pos c] at hbe; subst hbe; exact xr_iconst dL_law_479 fin
    · rw [if_neg c] at hbe; subst hbe; exact xr_iconst dL_law_475 (xr_goto (tgt := 480) dL_law_476 (by decide) fin)
  refine xr_if_eq (tgt := 443) dL_law_436 (by decide) r4 (fun c => ?_) (fun c => ?_)
  · exact xr_iconst dL_law_443 (go 0 (Or.inl rfl) (if_pos c).symm)
  · exact xr_iconst dL_law_439 (xr_goto (tgt := 444) dL_law_440 (by decide) (go 1 (Or.inr rfl) (if_neg c).symm))
set_option maxRecDepth 20000 in
theorem lc_8 (hl : l.stackTraces = false) (hI : INV N μ) (hN9 : 0 ≤ N ∧ N ≤ 600) (hi : 0 ≤ i) (hL : i + 6 ≤ (G.2.2.2 4 : Int)) (hL2 : G.2.2.2 4 ≤ 3072) (hb : 1 ≤ bc ∧ 6 ≤ bs) (K : ∀ μ', INV (N + 1) μ' → KL G l (i + 6) μ' (bc - 1) (bs - 6)) : RR G l 1312 601024 7293033 false mL_law qL1 488 (lll G i) [] LAY μ bc bs := by
  have hK0 : ∀ μ', INV (N + 1) μ' → KL G l (i + 6) μ' bc bs := fun μ' h => (K μ' h).less (by omega) (by omega)
  have sim : SIM G l 1311 mX11_solution mX12_solution [xi (xScr G (i + 1).toNat), xi (xScr G (i + 2).toNat)] N μ := op_solution (G := G) (l := l) (d := 1251) hI  (xScr_R G (i + 1).toNat) (xScr_R G (i + 2).toNat)
  refine xr_aload_n dL_law_488 rfl ?_
  refine xl_arg (j := 1) dL_law_489 dL_law_490 dL_law_492 dL_law_493 dL_law_494 rfl rfl hL2 (by omega) ?_
  refine xl_arg (j := 2) dL_law_495 dL_law_496 dL_law_498 dL_law_499 dL_law_500 rfl rfl hL2 (by omega) ?_
  refine xr_callV (As := [xi (xScr G (i + 1).toNat), xi (xScr G (i + 2).toNat)]) (d' := 1311) (mc' := 0) (ms' := 0) dL_law_501 mi_X11_solution ml_L_60 se_X11_solution L_0 rfl rfl rfl (Nat.le_of_ble_eq_true rfl) (by decide) (Nat.zero_le _) (Nat.zero_le _) sim ?_
  rintro r1 lay' m1 ⟨rfl, x1, rfl, hx1, sim2⟩
  refine xr_aload_n dL_law_504 rfl ?_
  refine xl_arg (j := 1) dL_law_505 dL_law_506 dL_law_508 dL_law_509 dL_law_510 rfl rfl hL2 (by omega) ?_
  refine xl_arg (j := 2) dL_law_511 dL_law_512 dL_law_514 dL_law_515 dL_law_516 rfl rfl hL2 (by omega) ?_
  refine xr_callV (As := [xi (xScr G (i + 1).toNat), xi (xScr G (i + 2).toNat)]) (d' := 1311) (mc' := 0) (ms' := 0) dL_law_517 mi_X12_solution ml_L_63 se_X12_solution L_74 rfl rfl rfl (Nat.le_of_ble_eq_true rfl) (by decide) (Nat.zero_le _) (Nat.zero_le _) sim2 ?_
  rintro r2 lay' m2 ⟨rfl, x2, rfl, hx2, e, hI2⟩
  exact xr_icmp_eq (tgt := 1181) dL_law_520 (by decide) hx1 hx2 (fun _ => xl_next rfl rfl ⟨rfl, rfl, rfl, rfl, rfl, trivial⟩ (hK0 m2 hI2)) (fun c => absurd e c)
set_option maxRecDepth 20000 in
theorem lc_9 (hl : l.stackTraces = false) (hI : INV N μ) (hN9 : 0 ≤ N ∧ N ≤ 600) (hi : 0 ≤ i) (hL : i + 6 ≤ (G.2.2.2 4 : Int)) (hL2 : G.2.2.2 4 ≤ 3072) (hb : 1 ≤ bc ∧ 6 ≤ bs) (K : ∀ μ', INV (N + 1) μ' → KL G l (i + 6) μ' (bc - 1) (bs - 6)) : RR G l 1312 601024 7293033 false mL_law qL1 525 (lll G i) [] LAY μ bc bs := by
  have hK0 : ∀ μ', INV (N + 1) μ' → KL G l (i + 6) μ' bc bs := fun μ' h => (K μ' h).less (by omega) (by omega)
  have sim : SIM G l 1311 mX11_readings mX12_readings [xi (xScr G (i + 1).toNat), xi (xScr G (i + 2).toNat), xi (xScr G (i + 3).toNat)] N μ := op_readings (G := G) (l := l) (d := 1251) hI hN9 (xScr_R G (i + 1).toNat) (xScr_R G (i + 2).toNat) (xScr_R G (i + 3).toNat)
  refine xr_aload_n dL_law_525 rfl ?_
  refine xl_arg (j := 1) dL_law_526 dL_law_527 dL_law_529 dL_law_530 dL_law_531 rfl rfl hL2 (by omega) ?_
  refine xl_arg (j := 2) dL_law_532 dL_law_533 dL_law_535 dL_law_536 dL_law_537 rfl rfl hL2 (by omega) ?_
  refine xl_arg (j := 3) dL_law_538 dL_law_539 dL_law_541 dL_law_542 dL_law_543 rfl rfl hL2 (by omega) ?_
  refine xr_callV (As := [xi (xScr G (i + 1).toNat), xi (xScr G (i + 2).toNat), xi (xScr G (i + 3).toNat)]) (d' := 1311) (mc' := 0) (ms' := 0) dL_law_544 mi_X11_readings ml_L_64 se_X11_readings L_0 rfl rfl rfl (Nat.le_of_ble_eq_true rfl) (by decide) (Nat.zero_le _) (Nat.zero_le _) sim ?_
  rintro r1 lay' m1 ⟨rfl, x1, rfl, hx1, sim2⟩
  refine xr_aload_n dL_law_547 rfl ?_
  refine xl_arg (j := 1) dL_law_548 dL_law_549 dL_law_551 dL_law_552 dL_law_553 rfl rfl hL2 (by omega) ?_
  refine xl_arg (j := 2) dL_law_554 dL_law_555 dL_law_557 dL_law_558 dL_law_559 rfl rfl hL2 (by omega) ?_
  refine xl_arg (j := 3) dL_law_560 dL_law_561 dL_law_563 dL_law_564 dL_law_565 rfl rfl hL2 (by omega) ?_
  refine xr_callV (As := [xi (xScr G (i + 1).toNat), xi (xScr G (i + 2).toNat), xi (xScr G (i + 3).toNat)]) (d' := 1311) (mc' := 0) (ms' := 0) dL_law_566 mi_X12_readings ml_L_68 se_X12_readings L_74 rfl rfl rfl (Nat.le_of_ble_eq_true rfl) (by decide) (Nat.zero_le _) (Nat.zero_le _) sim2 ?_
  rintro r2 lay' m2 ⟨rfl, x2, rfl, hx2, e, hI2⟩
  exact xr_icmp_eq (tgt := 1181) dL_law_569 (by decide) hx1 hx2 (fun _ => xl_next rfl rfl ⟨rfl, rfl, rfl, rfl, rfl, trivial⟩ (hK0 m2 hI2)) (fun c => absurd e c)
set_option maxRecDepth 20000 in
theorem lc_10 (hl : l.stackTraces = false) (hI : INV N μ) (hN9 : 0 ≤ N ∧ N ≤ 600) (hi : 0 ≤ i) (hL : i + 6 ≤ (G.2.2.2 4 : Int)) (hL2 : G.2.2.2 4 ≤ 3072) (hb : 1 ≤ bc ∧ 6 ≤ bs) (K : ∀ μ', INV (N + 1) μ' → KL G l (i + 6) μ' (bc - 1) (bs - 6)) : RR G l 1312 601024 7293033 false mL_law qL1 574 (lll G i) [] LAY μ bc bs := by
  have hK0 : ∀ μ', INV (N + 1) μ' → KL G l (i + 6) μ' bc bs := fun μ' h => (K μ' h).less (by omega) (by omega)
  have sim : SIM G l 1311 mX11_best mX12_best [xi (xScr G (i + 1).toNat), xi (xScr G (i + 2).toNat), xi (xScr G (i + 3).toNat)] N μ := op_best (G := G) (l := l) (d := 1251) hI hN9 (xScr_R G (i + 1).toNat) (xScr_R G (i + 2).toNat) (xScr_R G (i + 3).toNat)
  refine xr_aload_n dL_law_574 rfl ?_
  refine xl_arg (j := 1) dL_law_575 dL_law_576 dL_law_578 dL_law_579 dL_law_580 rfl rfl hL2 (by omega) ?_
  refine xl_arg (j := 2) dL_law_581 dL_law_582 dL_law_584 dL_law_585 dL_law_586 rfl rfl hL2 (by omega) ?_
  refine xl_arg (j := 3) dL_law_587 dL_law_588 dL_law_590 dL_law_591 dL_law_592 rfl rfl hL2 (by omega) ?_
  refine xr_callV (As := [xi (xScr G (i + 1).toNat), xi (xScr G (i + 2).toNat), xi (xScr G (i + 3).toNat)]) (d' := 1311) (mc' := 0) (ms' := 0) dL_law_593 mi_X11_best ml_L_69 se_X11_best L_0 rfl rfl rfl (Nat.le_of_ble_eq_true rfl) (by decide) (Nat.zero_le _) (Nat.zero_le _) sim ?_
  rintro r1 lay' m1 ⟨rfl, x1, rfl, hx1, sim2⟩
  refine xr_aload_n dL_law_596 rfl ?_
  refine xl_arg (j := 1) dL_law_597 dL_law_598 dL_law_600 dL_law_601 dL_law_602 rfl rfl hL2 (by omega) ?_
  refine xl_arg (j := 2) dL_law_603 dL_law_604 dL_law_606 dL_law_607 dL_law_608 rfl rfl hL2 (by omega) ?_
  refine xl_arg (j := 3) dL_law_609 dL_law_610 dL_law_612 dL_law_613 dL_law_614 rfl rfl hL2 (by omega) ?_
  refine xr_callV (As := [xi (xScr G (i + 1).toNat), xi (xScr G (i + 2).toNat), xi (xScr G (i + 3).toNat)]) (d' := 1311) (mc' := 0) (ms' := 0) dL_law_615 mi_X12_best ml_L_72 se_X12_best L_74 rfl rfl rfl (Nat.le_of_ble_eq_true rfl) (by decide) (Nat.zero_le _) (Nat.zero_le _) sim2 ?_
  rintro r2 lay' m2 ⟨rfl, x2, rfl, hx2, e, hI2⟩
  exact xr_icmp_eq (tgt := 1181) dL_law_618 (by decide) hx1 hx2 (fun _ => xl_next rfl rfl ⟨rfl, rfl, rfl, rfl, rfl, trivial⟩ (hK0 m2 hI2)) (fun c => absurd e c)
set_option maxRecDepth 20000 in
theorem lc_11 (hl : l.stackTraces = false) (hI : INV N μ) (hN9 : 0 ≤ N ∧ N ≤ 600) (hi : 0 ≤ i) (hL : i + 6 ≤ (G.2.2.2 4 : Int)) (hL2 : G.2.2.2 4 ≤ 3072) (hb : 1 ≤ bc ∧ 6 ≤ bs) (K : ∀ μ', INV (N + 1) μ' → KL G l (i + 6) μ' (bc - 1) (bs - 6)) : RR G l 1312 601024 7293033 false mL_law qL1 623 (lll G i) [] LAY μ bc bs := by
  have r1 := xScr_R G (i + 1).toNat
  refine xr_aload_n dL_law_623 rfl ?_
  refine xl_arg (j := 1) dL_law_624 dL_law_625 dL_law_627 dL_law_628 dL_law_629 rfl rfl hL2 (by omega) ?_
  refine xr_aload_n dL_law_630 rfl ?_
  obtain ⟨hT, hD, hO, hW, hM, hS, hC, hLL, hF, hU, hR, hG, hK, hP, hN⟩ := id hI
  refine xr_callW (hh := [(0, 9, 12, 13)]) (mt' := mL_octet) (n := 3) (As := [xr G 0, xi (xScr G (i + 1).toNat), xr G 130]) (d' := 1311) (mc' := 1) (ms' := 6) dL_law_631 ls_octet li_octet lw_octet ⟨by decide +kernel, by decide +kernel⟩ (by decide +kernel) (by decide) ml_L_73 rfl rfl (Nat.le_of_ble_eq_true rfl) (by decide) hb.1 hb.2 (met_Loctet hl r1 hO.1 (fun i a b => by have := hO.2.2 i a b; rw [this.1]; omega)) ?_
  have go : ∀ (v : Int) (m1 : xMem), FrX [130] [] μ m1 → ((v = 0 ∧ inO μ (xScr G (i + 1).toNat) ∧ m1 130 0 = μ 2 (xScr G (i + 1).toNat)) ∨ (v = 1 ∧ ¬ inO μ (xScr G (i + 1).toNat))) → RR G l 1312 601024 7293033 false mL_law qL1 634 (lll G i) [xi v] LAY m1 (bc - 1) (bs - 6) := by
    intro v m1 f1 hv
    have hv01 : iR v := by rcases hv with h | h <;> omega
    refine xr_istore' (ll' := [some (.ref (G.2.2.2 3)), some (xr G 0), some (xr G 74), some (xr G 130), some (xi i), some (xi v), none]) dL_law_634 (by decide) rfl rfl ?_
    refine xr_aload_n dL_law_636 rfl ?_
    refine xl_arg (j := 1) dL_law_637 dL_law_638 dL_law_640 dL_law_641 dL_law_642 rfl rfl hL2 (by omega) ?_
    have eA : ∀ m2, FrX [] [(74, 0)] m1 m2 → INV (N + 1) m2 := fun m2 f2 => hI.sc (f1.tr f2) (by decide) (by decide)
    have hM1 : CI G l 1311 mX12_octet [xr G 74, xi (xScr G (i + 1).toNat)] m1 (fun r m2 => FrX [] [(74, 0)] m1 m2 ∧ m2 74 0 = v ∧ (v = 0 → r = m1 130 0)) := by
      refine s_mOctet (n := μ 0 4) r1 (by rw [f1.f 74 54 (by decide)]; exact hO.2.1) hO.1 (fun i a b => by rw [f1.k 107 (by decide)]; have := hO.2.2 i a b; omega) (fun q => ⟨FrX.st, ?_, fun _ => ?_⟩) (fun q => ⟨FrX.st, ?_, fun q2 => ?_⟩)
      · rw [st_s]; rcases hv with h | h
        · exact h.1.symm
        · exact absurd q h.2
      · rw [f1.k 107 (by decide)]
        rcases hv with h | h
        · rw [h.2.2]; exact (hO.2.2 _ q.1 q.2).1.symm
        · exact absurd q h.2
      · rw [st_s]; rcases hv with h | h
        · exact absurd h.2.1 q
        · exact h.1.symm
      · rcases hv with h | h
        · exact absurd h.2.1 q
        · omega
    refine xr_callV (As := [xi (xScr G (i + 1).toNat)]) (d' := 1311) (mc' := 0) (ms' := 0) dL_law_643 mi_X12_octet ml_L_78 se_X12_octet L_74 rfl rfl rfl (Nat.le_of_ble_eq_true rfl) (by decide) (Nat.zero_le _) (Nat.zero_le _) hM1 ?_
    rintro r6 lay' m2 ⟨rfl, y, rfl, hy, f2, e0, ey⟩
    refine xr_istore' (ll' := [some (.ref (G.2.2.2 3)), some (xr G 0), some (xr G 74), some (xr G 130), some (xi i), some (xi v), some (xi y)]) dL_law_646 (by decide) rfl rfl ?_
    refine xr_aload_n dL_law_648 rfl ?_
    refine xr_callV (As := []) (d' := 1311) (mc' := 0) (ms' := 0) dL_law_649 mi_X12_thrown ml_L_79 se_X12_thrown L_74 rfl rfl rfl (Nat.le_of_ble_eq_true rfl) (by decide) (Nat.zero_le _) (Nat.zero_le _) (s_thrown (P := fun r m3 => r = v ∧ m3 = m2) (by rw [e0]; exact hv01) ⟨e0, rfl⟩) ?_
    rintro r7 lay' m3 ⟨rfl, y7, rfl, hy7, rfl, rfl⟩
    refine xr_iload dL_law_652 rfl ?_
    refine xr_icmp_eq (tgt := 659) dL_law_654 (by decide) hy7 hy7 (fun _ => ?_) (fun c => absurd rfl c)
    refine xr_iload dL_law_659 rfl ?_
    have fin : RR G l 1312 601024 7293033 false mL_law qL1 676 [some (.ref (G.2.2.2 3)), some (xr G 0), some (xr G 74), some (xr G 130), some (xi i), some (xi y7), some (xi y)] [] LAY m3 (bc - 1) (bs - 6) := by
      refine xr_goto (tgt := 1181) dL_law_676 (by decide) ?_
      exact xl_next rfl rfl ⟨rfl, rfl, rfl, rfl, rfl, trivial⟩ (K m3 (eA m3 f2))
    refine xr_if_ne (tgt := 676) dL_law_661 (by decide) hy7 (fun _ => fin) (fun c => ?_)
    refine xr_aload_n dL_law_664 rfl ?_
    refine xr_iconst dL_law_665 ?_
    refine xr_laload' (v := y) (N := 1) dL_law_666 L_130 rfl (by decide) (by decide) (by rw [f2.k 130 (by decide)]; exact (ey c).symm) ?_
    refine xr_iload dL_law_667 rfl ?_
    refine xr_i2l dL_law_669 hy ?_
    refine xr_lcmp dL_law_670 (by omega) (by omega) ?_
    have ec : jcmp y y = 0 := by unfold jcmp; rw [if_neg (by omega), if_pos rfl]
    rw [ec]
    exact xr_if_eq (tgt := 676) dL_law_671 (by decide) (by decide) (fun _ => fin) (fun c => absurd rfl c)
  rintro r lay' m1 ⟨rfl, ⟨hin, rfl, rfl⟩ | ⟨hin, rfl, rfl⟩⟩
  · exact go 0 _ FrX.sa (Or.inl ⟨rfl, hin, st_s _ _ _ _⟩)
  · exact go 1 _ FrX.rf (Or.inr ⟨rfl, hin⟩)
set_option maxRecDepth 20000 in
theorem lc_12 (hl : l.stackTraces = false) (hI : INV N μ) (hN9 : 0 ≤ N ∧ N ≤ 600) (hi : 0 ≤ i) (hL : i + 6 ≤ (G.2.2.2 4 : Int)) (hL2 : G.2.2.2 4 ≤ 3072) (hb : 1 ≤ bc ∧ 6 ≤ bs) (K : ∀ μ', INV (N + 1) μ' → KL G l (i + 6) μ' (bc - 1) (bs - 6)) : RR G l 1312 601024 7293033 false mL_law qL1 679 (lll G i) [] LAY μ bc bs := by
  have hK0 : ∀ μ', INV (N + 1) μ' → KL G l (i + 6) μ' bc bs := fun μ' h => (K μ' h).less (by omega) (by omega)
  have sim : SIM G l 1311 mX11_possible mX12_possible [xi (xScr G (i + 1).toNat), xi (xScr G (i + 2).toNat)] N μ := op_possible (G := G) (l := l) (d := 1251) hI hN9 (xScr_R G (i + 1).toNat) (xScr_R G (i + 2).toNat)
  refine xr_aload_n dL_law_679 rfl ?_
  refine xl_arg (j := 1) dL_law_680 dL_law_681 dL_law_683 dL_law_684 dL_law_685 rfl rfl hL2 (by omega) ?_
  refine xl_arg (j := 2) dL_law_686 dL_law_687 dL_law_689 dL_law_690 dL_law_691 rfl rfl hL2 (by omega) ?_
  refine xr_callV (As := [xi (xScr G (i + 1).toNat), xi (xScr G (i + 2).toNat)]) (d' := 1311) (mc' := 0) (ms' := 0) dL_law_692 mi_X11_possible ml_L_82 se_X11_possible L_0 rfl rfl rfl (Nat.le_of_ble_eq_true rfl) (by decide) (Nat.zero_le _) (Nat.zero_le _) sim ?_
  rintro r1 lay' m1 ⟨rfl, x1, rfl, hx1, sim2⟩
  refine xr_aload_n dL_law_695 rfl ?_
  refine xl_arg (j := 1) dL_law_696 dL_law_697 dL_law_699 dL_law_700 dL_law_701 rfl rfl hL2 (by omega) ?_
  refine xl_arg (j := 2) dL_law_702 dL_law_703 dL_law_705 dL_law_706 dL_law_707 rfl rfl hL2 (by omega) ?_
  refine xr_callV (As := [xi (xScr G (i + 1).toNat), xi (xScr G (i + 2).toNat)]) (d' := 1311) (mc' := 0) (ms' := 0) dL_law_708 mi_X12_possible ml_L_85 se_X12_possible L_74 rfl rfl rfl (Nat.le_of_ble_eq_true rfl) (by decide) (Nat.zero_le _) (Nat.zero_le _) sim2 ?_
  rintro r2 lay' m2 ⟨rfl, x2, rfl, hx2, e, hI2⟩
  exact xr_icmp_eq (tgt := 1181) dL_law_711 (by decide) hx1 hx2 (fun _ => xl_next rfl rfl ⟨rfl, rfl, rfl, rfl, rfl, trivial⟩ (hK0 m2 hI2)) (fun c => absurd e c)
set_option maxRecDepth 20000 in
theorem lc_13 (hl : l.stackTraces = false) (hI : INV N μ) (hN9 : 0 ≤ N ∧ N ≤ 600) (hi : 0 ≤ i) (hL : i + 6 ≤ (G.2.2.2 4 : Int)) (hL2 : G.2.2.2 4 ≤ 3072) (hb : 1 ≤ bc ∧ 6 ≤ bs) (K : ∀ μ', INV (N + 1) μ' → KL G l (i + 6) μ' (bc - 1) (bs - 6)) : RR G l 1312 601024 7293033 false mL_law qL1 716 (lll G i) [] LAY μ bc bs := by
  have hK0 : ∀ μ', INV (N + 1) μ' → KL G l (i + 6) μ' bc bs := fun μ' h => (K μ' h).less (by omega) (by omega)
  have sim : SIM G l 1311 mX11_possibleAt mX12_possibleAt [xi (xScr G (i + 1).toNat), xi (xScr G (i + 2).toNat), xi (xScr G (i + 3).toNat)] N μ := op_possibleAt (G := G) (l := l) (d := 1251) hI hN9 (xScr_R G (i + 1).toNat) (xScr_R G (i + 2).toNat) (xScr_R G (i + 3).toNat)
  refine xr_aload_n dL_law_716 rfl ?_
  refine xl_arg (j := 1) dL_law_717 dL_law_718 dL_law_720 dL_law_721 dL_law_722 rfl rfl hL2 (by omega) ?_
  refine xl_arg (j := 2) dL_law_723 dL_law_724 dL_law_726 dL_law_727 dL_law_728 rfl rfl hL2 (by omega) ?_
  refine xl_arg (j := 3) dL_law_729 dL_law_730 dL_law_732 dL_law_733 dL_law_734 rfl rfl hL2 (by omega) ?_
  refine xr_callV (As := [xi (xScr G (i + 1).toNat), xi (xScr G (i + 2).toNat), xi (xScr G (i + 3).toNat)]) (d' := 1311) (mc' := 0) (ms' := 0) dL_law_735 mi_X11_possibleAt ml_L_86 se_X11_possibleAt L_0 rfl rfl rfl (Nat.le_of_ble_eq_true rfl) (by decide) (Nat.zero_le _) (Nat.zero_le _) sim ?_
  rintro r1 lay' m1 ⟨rfl, x1, rfl, hx1, sim2⟩
  refine xr_aload_n dL_law_738 rfl ?_
  refine xl_arg (j := 1) dL_law_739 dL_law_740 dL_law_742 dL_law_743 dL_law_744 rfl rfl hL2 (by omega) ?_
  refine xl_arg (j := 2) dL_law_745 dL_law_746 dL_law_748 dL_law_749 dL_law_750 rfl rfl hL2 (by omega) ?_
  refine xl_arg (j := 3) dL_law_751 dL_law_752 dL_law_754 dL_law_755 dL_law_756 rfl rfl hL2 (by omega) ?_
  refine xr_callV (As := [xi (xScr G (i + 1).toNat), xi (xScr G (i + 2).toNat), xi (xScr G (i + 3).toNat)]) (d' := 1311) (mc' := 0) (ms' := 0) dL_law_757 mi_X12_possibleAt ml_L_89 se_X12_possibleAt L_74 rfl rfl rfl (Nat.le_of_ble_eq_true rfl) (by decide) (Nat.zero_le _) (Nat.zero_le _) sim2 ?_
  rintro r2 lay' m2 ⟨rfl, x2, rfl, hx2, e, hI2⟩
  exact xr_icmp_eq (tgt := 1181) dL_law_760 (by decide) hx1 hx2 (fun _ => xl_next rfl rfl ⟨rfl, rfl, rfl, rfl, rfl, trivial⟩ (hK0 m2 hI2)) (fun c => absurd e c)
set_option maxRecDepth 20000 in
theorem lc_14 (hl : l.stackTraces = false) (hI : INV N μ) (hN9 : 0 ≤ N ∧ N ≤ 600) (hi : 0 ≤ i) (hL : i + 6 ≤ (G.2.2.2 4 : Int)) (hL2 : G.2.2.2 4 ≤ 3072) (hb : 1 ≤ bc ∧ 6 ≤ bs) (K : ∀ μ', INV (N + 1) μ' → KL G l (i + 6) μ' (bc - 1) (bs - 6)) : RR G l 1312 601024 7293033 false mL_law qL1 765 (lll G i) [] LAY μ bc bs := by
  have hK0 : ∀ μ', INV (N + 1) μ' → KL G l (i + 6) μ' bc bs := fun μ' h => (K μ' h).less (by omega) (by omega)
  have sim : SIM G l 1311 mX11_enter mX12_enter [xi (xScr G (i + 1).toNat), xi (xScr G (i + 2).toNat), xi (xScr G (i + 3).toNat)] N μ := op_enter (G := G) (l := l) (d := 1251) hI  (xScr_R G (i + 1).toNat) (xScr_R G (i + 2).toNat) (xScr_R G (i + 3).toNat)
  refine xr_aload_n dL_law_765 rfl ?_
  refine xl_arg (j := 1) dL_law_766 dL_law_767 dL_law_769 dL_law_770 dL_law_771 rfl rfl hL2 (by omega) ?_
  refine xl_arg (j := 2) dL_law_772 dL_law_773 dL_law_775 dL_law_776 dL_law_777 rfl rfl hL2 (by omega) ?_
  refine xl_arg (j := 3) dL_law_778 dL_law_779 dL_law_781 dL_law_782 dL_law_783 rfl rfl hL2 (by omega) ?_
  refine xr_callV (As := [xi (xScr G (i + 1).toNat), xi (xScr G (i + 2).toNat), xi (xScr G (i + 3).toNat)]) (d' := 1311) (mc' := 0) (ms' := 0) dL_law_784 mi_X11_enter ml_L_90 se_X11_enter L_0 rfl rfl rfl (Nat.le_of_ble_eq_true rfl) (by decide) (Nat.zero_le _) (Nat.zero_le _) sim ?_
  rintro r1 lay' m1 ⟨rfl, x1, rfl, hx1, sim2⟩
  refine xr_aload_n dL_law_787 rfl ?_
  refine xl_arg (j := 1) dL_law_788 dL_law_789 dL_law_791 dL_law_792 dL_law_793 rfl rfl hL2 (by omega) ?_
  refine xl_arg (j := 2) dL_law_794 dL_law_795 dL_law_797 dL_law_798 dL_law_799 rfl rfl hL2 (by omega) ?_
  refine xl_arg (j := 3) dL_law_800 dL_law_801 dL_law_803 dL_law_804 dL_law_805 rfl rfl hL2 (by omega) ?_
  refine xr_callV (As := [xi (xScr G (i + 1).toNat), xi (xScr G (i + 2).toNat), xi (xScr G (i + 3).toNat)]) (d' := 1311) (mc' := 0) (ms' := 0) dL_law_806 mi_X12_enter ml_L_94 se_X12_enter L_74 rfl rfl rfl (Nat.le_of_ble_eq_true rfl) (by decide) (Nat.zero_le _) (Nat.zero_le _) sim2 ?_
  rintro r2 lay' m2 ⟨rfl, x2, rfl, hx2, e, hI2⟩
  exact xr_icmp_eq (tgt := 1181) dL_law_809 (by decide) hx1 hx2 (fun _ => xl_next rfl rfl ⟨rfl, rfl, rfl, rfl, rfl, trivial⟩ (hK0 m2 hI2)) (fun c => absurd e c)
set_option maxRecDepth 20000 in
theorem lc_15 (hl : l.stackTraces = false) (hI : INV N μ) (hN9 : 0 ≤ N ∧ N ≤ 600) (hi : 0 ≤ i) (hL : i + 6 ≤ (G.2.2.2 4 : Int)) (hL2 : G.2.2.2 4 ≤ 3072) (hb : 1 ≤ bc ∧ 6 ≤ bs) (K : ∀ μ', INV (N + 1) μ' → KL G l (i + 6) μ' (bc - 1) (bs - 6)) : RR G l 1312 601024 7293033 false mL_law qL1 814 (lll G i) [] LAY μ bc bs := by
  have hK0 : ∀ μ', INV (N + 1) μ' → KL G l (i + 6) μ' bc bs := fun μ' h => (K μ' h).less (by omega) (by omega)
  have sim : SIM G l 1311 mX11_cell mX12_cell [xi (xScr G (i + 1).toNat), xi (xScr G (i + 2).toNat)] N μ := op_cell (G := G) (l := l) (d := 1251) hI  (xScr_R G (i + 1).toNat) (xScr_R G (i + 2).toNat)
  refine xr_aload_n dL_law_814 rfl ?_
  refine xl_arg (j := 1) dL_law_815 dL_law_816 dL_law_818 dL_law_819 dL_law_820 rfl rfl hL2 (by omega) ?_
  refine xl_arg (j := 2) dL_law_821 dL_law_822 dL_law_824 dL_law_825 dL_law_826 rfl rfl hL2 (by omega) ?_
  refine xr_callV (As := [xi (xScr G (i + 1).toNat), xi (xScr G (i + 2).toNat)]) (d' := 1311) (mc' := 0) (ms' := 0) dL_law_827 mi_X11_cell ml_L_95 se_X11_cell L_0 rfl rfl rfl (Nat.le_of_ble_eq_true rfl) (by decide) (Nat.zero_le _) (Nat.zero_le _) sim ?_
  rintro r1 lay' m1 ⟨rfl, x1, rfl, hx1, sim2⟩
  refine xr_aload_n dL_law_830 rfl ?_
  refine xl_arg (j := 1) dL_law_831 dL_law_832 dL_law_834 dL_law_835 dL_law_836 rfl rfl hL2 (by omega) ?_
  refine xl_arg (j := 2) dL_law_837 dL_law_838 dL_law_840 dL_law_841 dL_law_842 rfl rfl hL2 (by omega) ?_
  refine xr_callV (As := [xi (xScr G (i + 1).toNat), xi (xScr G (i + 2).toNat)]) (d' := 1311) (mc' := 0) (ms' := 0) dL_law_843 mi_X12_cell ml_L_98 se_X12_cell L_74 rfl rfl rfl (Nat.le_of_ble_eq_true rfl) (by decide) (Nat.zero_le _) (Nat.zero_le _) sim2 ?_
  rintro r2 lay' m2 ⟨rfl, x2, rfl, hx2, e, hI2⟩
  exact xr_icmp_eq (tgt := 1181) dL_law_846 (by decide) hx1 hx2 (fun _ => xl_next rfl rfl ⟨rfl, rfl, rfl, rfl, rfl, trivial⟩ (hK0 m2 hI2)) (fun c => absurd e c)
set_option maxRecDepth 20000 in
theorem lc_16 (hl : l.stackTraces = false) (hI : INV N μ) (hN9 : 0 ≤ N ∧ N ≤ 600) (hi : 0 ≤ i) (hL : i + 6 ≤ (G.2.2.2 4 : Int)) (hL2 : G.2.2.2 4 ≤ 3072) (hb : 1 ≤ bc ∧ 6 ≤ bs) (K : ∀ μ', INV (N + 1) μ' → KL G l (i + 6) μ' (bc - 1) (bs - 6)) : RR G l 1312 601024 7293033 false mL_law qL1 851 (lll G i) [] LAY μ bc bs := by
  have hK0 : ∀ μ', INV (N + 1) μ' → KL G l (i + 6) μ' bc bs := fun μ' h => (K μ' h).less (by omega) (by omega)
  have sim : SIM G l 1311 mX11_left mX12_left [xi (xScr G (i + 1).toNat), xi (xScr G (i + 2).toNat)] N μ := op_left (G := G) (l := l) (d := 1251) hI hN9 (xScr_R G (i + 1).toNat) (xScr_R G (i + 2).toNat)
  refine xr_aload_n dL_law_851 rfl ?_
  refine xl_arg (j := 1) dL_law_852 dL_law_853 dL_law_855 dL_law_856 dL_law_857 rfl rfl hL2 (by omega) ?_
  refine xl_arg (j := 2) dL_law_858 dL_law_859 dL_law_861 dL_law_862 dL_law_863 rfl rfl hL2 (by omega) ?_
  refine xr_callV (As := [xi (xScr G (i + 1).toNat), xi (xScr G (i + 2).toNat)]) (d' := 1311) (mc' := 0) (ms' := 0) dL_law_864 mi_X11_left ml_L_99 se_X11_left L_0 rfl rfl rfl (Nat.le_of_ble_eq_true rfl) (by decide) (Nat.zero_le _) (Nat.zero_le _) sim ?_
  rintro r1 lay' m1 ⟨rfl, x1, rfl, hx1, sim2⟩
  refine xr_aload_n dL_law_867 rfl ?_
  refine xl_arg (j := 1) dL_law_868 dL_law_869 dL_law_871 dL_law_872 dL_law_873 rfl rfl hL2 (by omega) ?_
  refine xl_arg (j := 2) dL_law_874 dL_law_875 dL_law_877 dL_law_878 dL_law_879 rfl rfl hL2 (by omega) ?_
  refine xr_callV (As := [xi (xScr G (i + 1).toNat), xi (xScr G (i + 2).toNat)]) (d' := 1311) (mc' := 0) (ms' := 0) dL_law_880 mi_X12_left ml_L_102 se_X12_left L_74 rfl rfl rfl (Nat.le_of_ble_eq_true rfl) (by decide) (Nat.zero_le _) (Nat.zero_le _) sim2 ?_
  rintro r2 lay' m2 ⟨rfl, x2, rfl, hx2, e, hI2⟩
  exact xr_icmp_eq (tgt := 1181) dL_law_883 (by decide) hx1 hx2 (fun _ => xl_next rfl rfl ⟨rfl, rfl, rfl, rfl, rfl, trivial⟩ (hK0 m2 hI2)) (fun c => absurd e c)
set_option maxRecDepth 20000 in
theorem lc_17 (hl : l.stackTraces = false) (hI : INV N μ) (hN9 : 0 ≤ N ∧ N ≤ 600) (hi : 0 ≤ i) (hL : i + 6 ≤ (G.2.2.2 4 : Int)) (hL2 : G.2.2.2 4 ≤ 3072) (hb : 1 ≤ bc ∧ 6 ≤ bs) (K : ∀ μ', INV (N + 1) μ' → KL G l (i + 6) μ' (bc - 1) (bs - 6)) : RR G l 1312 601024 7293033 false mL_law qL1 888 (lll G i) [] LAY μ bc bs := by
  have hK0 : ∀ μ', INV (N + 1) μ' → KL G l (i + 6) μ' bc bs := fun μ' h => (K μ' h).less (by omega) (by omega)
  have sim : SIM G l 1311 mX11_nextLight mX12_nextLight [xi (xScr G (i + 1).toNat)] N μ := op_nextLight (G := G) (l := l) (d := 1251) hI hN9 (xScr_R G (i + 1).toNat)
  refine xr_aload_n dL_law_888 rfl ?_
  refine xl_arg (j := 1) dL_law_889 dL_law_890 dL_law_892 dL_law_893 dL_law_894 rfl rfl hL2 (by omega) ?_
  refine xr_callV (As := [xi (xScr G (i + 1).toNat)]) (d' := 1311) (mc' := 0) (ms' := 0) dL_law_895 mi_X11_nextLight ml_L_103 se_X11_nextLight L_0 rfl rfl rfl (Nat.le_of_ble_eq_true rfl) (by decide) (Nat.zero_le _) (Nat.zero_le _) sim ?_
  rintro r1 lay' m1 ⟨rfl, x1, rfl, hx1, sim2⟩
  refine xr_aload_n dL_law_898 rfl ?_
  refine xl_arg (j := 1) dL_law_899 dL_law_900 dL_law_902 dL_law_903 dL_law_904 rfl rfl hL2 (by omega) ?_
  refine xr_callV (As := [xi (xScr G (i + 1).toNat)]) (d' := 1311) (mc' := 0) (ms' := 0) dL_law_905 mi_X12_nextLight ml_L_106 se_X12_nextLight L_74 rfl rfl rfl (Nat.le_of_ble_eq_true rfl) (by decide) (Nat.zero_le _) (Nat.zero_le _) sim2 ?_
  rintro r2 lay' m2 ⟨rfl, x2, rfl, hx2, e, hI2⟩
  exact xr_icmp_eq (tgt := 1181) dL_law_908 (by decide) hx1 hx2 (fun _ => xl_next rfl rfl ⟨rfl, rfl, rfl, rfl, rfl, trivial⟩ (hK0 m2 hI2)) (fun c => absurd e c)
set_option maxRecDepth 20000 in
theorem lc_18 (hl : l.stackTraces = false) (hI : INV N μ) (hN9 : 0 ≤ N ∧ N ≤ 600) (hi : 0 ≤ i) (hL : i + 6 ≤ (G.2.2.2 4 : Int)) (hL2 : G.2.2.2 4 ≤ 3072) (hb : 1 ≤ bc ∧ 6 ≤ bs) (K : ∀ μ', INV (N + 1) μ' → KL G l (i + 6) μ' (bc - 1) (bs - 6)) : RR G l 1312 601024 7293033 false mL_law qL1 913 (lll G i) [] LAY μ bc bs := by
  have hK0 : ∀ μ', INV (N + 1) μ' → KL G l (i + 6) μ' bc bs := fun μ' h => (K μ' h).less (by omega) (by omega)
  have sim : SIM G l 1311 mX11_solve mX12_solve [xi (xScr G (i + 1).toNat)] N μ := op_solve (G := G) (l := l) (d := 1251) hI hN9 (xScr_R G (i + 1).toNat)
  refine xr_aload_n dL_law_913 rfl ?_
  refine xl_arg (j := 1) dL_law_914 dL_law_915 dL_law_917 dL_law_918 dL_law_919 rfl rfl hL2 (by omega) ?_
  refine xr_callV (As := [xi (xScr G (i + 1).toNat)]) (d' := 1311) (mc' := 0) (ms' := 0) dL_law_920 mi_X11_solve ml_L_107 se_X11_solve L_0 rfl rfl rfl (Nat.le_of_ble_eq_true rfl) (by decide) (Nat.zero_le _) (Nat.zero_le _) sim ?_
  rintro r1 lay' m1 ⟨rfl, x1, rfl, hx1, sim2⟩
  refine xr_aload_n dL_law_923 rfl ?_
  refine xl_arg (j := 1) dL_law_924 dL_law_925 dL_law_927 dL_law_928 dL_law_929 rfl rfl hL2 (by omega) ?_
  refine xr_callV (As := [xi (xScr G (i + 1).toNat)]) (d' := 1311) (mc' := 0) (ms' := 0) dL_law_930 mi_X12_solve ml_L_110 se_X12_solve L_74 rfl rfl rfl (Nat.le_of_ble_eq_true rfl) (by decide) (Nat.zero_le _) (Nat.zero_le _) sim2 ?_
  rintro r2 lay' m2 ⟨rfl, x2, rfl, hx2, e, hI2⟩
  exact xr_icmp_eq (tgt := 1181) dL_law_933 (by decide) hx1 hx2 (fun _ => xl_next rfl rfl ⟨rfl, rfl, rfl, rfl, rfl, trivial⟩ (hK0 m2 hI2)) (fun c => absurd e c)
set_option maxRecDepth 20000 in
theorem lc_19 (hl : l.stackTraces = false) (hI : INV N μ) (hN9 : 0 ≤ N ∧ N ≤ 600) (hi : 0 ≤ i) (hL : i + 6 ≤ (G.2.2.2 4 : Int)) (hL2 : G.2.2.2 4 ≤ 3072) (hb : 1 ≤ bc ∧ 6 ≤ bs) (K : ∀ μ', INV (N + 1) μ' → KL G l (i + 6) μ' (bc - 1) (bs - 6)) : RR G l 1312 601024 7293033 false mL_law qL1 938 (lll G i) [] LAY μ bc bs := by
  have hK0 : ∀ μ', INV (N + 1) μ' → KL G l (i + 6) μ' bc bs := fun μ' h => (K μ' h).less (by omega) (by omega)
  have sim : SIM G l 1311 mX11_fillings mX12_fillings [xi (xScr G (i + 1).toNat)] N μ := op_fillings (G := G) (l := l) (d := 1251) hI hN9 (xScr_R G (i + 1).toNat)
  refine xr_aload_n dL_law_938 rfl ?_
  refine xl_arg (j := 1) dL_law_939 dL_law_940 dL_law_942 dL_law_943 dL_law_944 rfl rfl hL2 (by omega) ?_
  refine xr_callV (As := [xi (xScr G (i + 1).toNat)]) (d' := 1311) (mc' := 0) (ms' := 0) dL_law_945 mi_X11_fillings ml_L_111 se_X11_fillings L_0 rfl rfl rfl (Nat.le_of_ble_eq_true rfl) (by decide) (Nat.zero_le _) (Nat.zero_le _) sim ?_
  rintro r1 lay' m1 ⟨rfl, x1, rfl, hx1, sim2⟩
  refine xr_aload_n dL_law_948 rfl ?_
  refine xl_arg (j := 1) dL_law_949 dL_law_950 dL_law_952 dL_law_953 dL_law_954 rfl rfl hL2 (by omega) ?_
  refine xr_callV (As := [xi (xScr G (i + 1).toNat)]) (d' := 1311) (mc' := 0) (ms' := 0) dL_law_955 mi_X12_fillings ml_L_114 se_X12_fillings L_74 rfl rfl rfl (Nat.le_of_ble_eq_true rfl) (by decide) (Nat.zero_le _) (Nat.zero_le _) sim2 ?_
  rintro r2 lay' m2 ⟨rfl, x2, rfl, hx2, e, hI2⟩
  exact xr_icmp_eq (tgt := 1181) dL_law_958 (by decide) hx1 hx2 (fun _ => xl_next rfl rfl ⟨rfl, rfl, rfl, rfl, rfl, trivial⟩ (hK0 m2 hI2)) (fun c => absurd e c)
set_option maxRecDepth 20000 in
theorem lc_20 (hl : l.stackTraces = false) (hI : INV N μ) (hN9 : 0 ≤ N ∧ N ≤ 600) (hi : 0 ≤ i) (hL : i + 6 ≤ (G.2.2.2 4 : Int)) (hL2 : G.2.2.2 4 ≤ 3072) (hb : 1 ≤ bc ∧ 6 ≤ bs) (K : ∀ μ', INV (N + 1) μ' → KL G l (i + 6) μ' (bc - 1) (bs - 6)) : RR G l 1312 601024 7293033 false mL_law qL1 963 (lll G i) [] LAY μ bc bs := by
  have hK0 : ∀ μ', INV (N + 1) μ' → KL G l (i + 6) μ' bc bs := fun μ' h => (K μ' h).less (by omega) (by omega)
  have sim : SIM G l 1311 mX11_filled mX12_filled [xi (xScr G (i + 1).toNat)] N μ := op_filled (G := G) (l := l) (d := 1251) hI  (xScr_R G (i + 1).toNat)
  refine xr_aload_n dL_law_963 rfl ?_
  refine xl_arg (j := 1) dL_law_964 dL_law_965 dL_law_967 dL_law_968 dL_law_969 rfl rfl hL2 (by omega) ?_
  refine xr_callV (As := [xi (xScr G (i + 1).toNat)]) (d' := 1311) (mc' := 0) (ms' := 0) dL_law_970 mi_X11_filled ml_L_115 se_X11_filled L_0 rfl rfl rfl (Nat.le_of_ble_eq_true rfl) (by decide) (Nat.zero_le _) (Nat.zero_le _) sim ?_
  rintro r1 lay' m1 ⟨rfl, x1, rfl, hx1, sim2⟩
  refine xr_aload_n dL_law_973 rfl ?_
  refine xl_arg (j := 1) dL_law_974 dL_law_975 dL_law_977 dL_law_978 dL_law_979 rfl rfl hL2 (by omega) ?_
  refine xr_callV (As := [xi (xScr G (i + 1).toNat)]) (d' := 1311) (mc' := 0) (ms' := 0) dL_law_980 mi_X12_filled ml_L_118 se_X12_filled L_74 rfl rfl rfl (Nat.le_of_ble_eq_true rfl) (by decide) (Nat.zero_le _) (Nat.zero_le _) sim2 ?_
  rintro r2 lay' m2 ⟨rfl, x2, rfl, hx2, e, hI2⟩
  exact xr_icmp_eq (tgt := 1181) dL_law_983 (by decide) hx1 hx2 (fun _ => xl_next rfl rfl ⟨rfl, rfl, rfl, rfl, rfl, trivial⟩ (hK0 m2 hI2)) (fun c => absurd e c)
set_option maxRecDepth 20000 in
theorem lc_21 (hl : l.stackTraces = false) (hI : INV N μ) (hN9 : 0 ≤ N ∧ N ≤ 600) (hi : 0 ≤ i) (hL : i + 6 ≤ (G.2.2.2 4 : Int)) (hL2 : G.2.2.2 4 ≤ 3072) (hb : 1 ≤ bc ∧ 6 ≤ bs) (K : ∀ μ', INV (N + 1) μ' → KL G l (i + 6) μ' (bc - 1) (bs - 6)) : RR G l 1312 601024 7293033 false mL_law qL1 988 (lll G i) [] LAY μ bc bs := by
  have hK0 : ∀ μ', INV (N + 1) μ' → KL G l (i + 6) μ' bc bs := fun μ' h => (K μ' h).less (by omega) (by omega)
  have sim : SIM G l 1311 mX11_unfair mX12_unfair [xi (xScr G (i + 1).toNat)] N μ := op_unfair (G := G) (l := l) (d := 1251) hI hN9 (xScr_R G (i + 1).toNat)
  refine xr_aload_n dL_law_988 rfl ?_
  refine xl_arg (j := 1) dL_law_989 dL_law_990 dL_law_992 dL_law_993 dL_law_994 rfl rfl hL2 (by omega) ?_
  refine xr_callV (As := [xi (xScr G (i + 1).toNat)]) (d' := 1311) (mc' := 0) (ms' := 0) dL_law_995 mi_X11_unfair ml_L_119 se_X11_unfair L_0 rfl rfl rfl (Nat.le_of_ble_eq_true rfl) (by decide) (Nat.zero_le _) (Nat.zero_le _) sim ?_
  rintro r1 lay' m1 ⟨rfl, x1, rfl, hx1, sim2⟩
  refine xr_aload_n dL_law_998 rfl ?_
  refine xl_arg (j := 1) dL_law_999 dL_law_1000 dL_law_1002 dL_law_1003 dL_law_1004 rfl rfl hL2 (by omega) ?_
  refine xr_callV (As := [xi (xScr G (i + 1).toNat)]) (d' := 1311) (mc' := 0) (ms' := 0) dL_law_1005 mi_X12_unfair ml_L_122 se_X12_unfair L_74 rfl rfl rfl (Nat.le_of_ble_eq_true rfl) (by decide) (Nat.zero_le _) (Nat.zero_le _) sim2 ?_
  rintro r2 lay' m2 ⟨rfl, x2, rfl, hx2, e, hI2⟩
  exact xr_icmp_eq (tgt := 1181) dL_law_1008 (by decide) hx1 hx2 (fun _ => xl_next rfl rfl ⟨rfl, rfl, rfl, rfl, rfl, trivial⟩ (hK0 m2 hI2)) (fun c => absurd e c)
set_option maxRecDepth 20000 in
theorem lc_22 (hl : l.stackTraces = false) (hI : INV N μ) (hN9 : 0 ≤ N ∧ N ≤ 600) (hi : 0 ≤ i) (hL : i + 6 ≤ (G.2.2.2 4 : Int)) (hL2 : G.2.2.2 4 ≤ 3072) (hb : 1 ≤ bc ∧ 6 ≤ bs) (K : ∀ μ', INV (N + 1) μ' → KL G l (i + 6) μ' (bc - 1) (bs - 6)) : RR G l 1312 601024 7293033 false mL_law qL1 1013 (lll G i) [] LAY μ bc bs := by
  have r1 := xScr_R G (i + 1).toNat
  have r2 := xScr_R G (i + 2).toNat
  refine xr_aload_n dL_law_1013 rfl ?_
  refine xl_arg (j := 1) dL_law_1014 dL_law_1015 dL_law_1017 dL_law_1018 dL_law_1019 rfl rfl hL2 (by omega) ?_
  refine xl_arg (j := 2) dL_law_1020 dL_law_1021 dL_law_1023 dL_law_1024 dL_law_1025 rfl rfl hL2 (by omega) ?_
  refine xr_aload_n dL_law_1026 rfl ?_
  obtain ⟨hT, hD, hO, hW, hM, hS, hC, hLL, hF, hU, hR, hG, hK, hP, hN⟩ := id hI
  refine xr_callW (hh := [(0, 10, 13, 13)]) (mt' := mL_told) (n := 4) (As := [xr G 0, xi (xScr G (i + 1).toNat), xi (xScr G (i + 2).toNat), xr G 130]) (d' := 1311) (mc' := 1) (ms' := 6) dL_law_1027 ls_told li_told lw_told ⟨by decide +kernel, by decide +kernel⟩ (by decide +kernel) (by decide) ml_L_123 rfl rfl (Nat.le_of_ble_eq_true rfl) (by decide) hb.1 hb.2 (met_Ltold hl r1 r2 (by rw [hU.1]; exact hU.2.1) (fun i a b => by rw [hU.1] at b; have := hU.2.2 i a b; rw [this.1, this.2.1]; exact this.2.2)) ?_
  have go : ∀ (v : Int) (m1 : xMem), FrX [130] [] μ m1 → ((v = 0 ∧ inT μ (xScr G (i + 1).toNat) (xScr G (i + 2).toNat) ∧ m1 130 0 = vaT μ (xScr G (i + 1).toNat) (xScr G (i + 2).toNat)) ∨ (v = 1 ∧ ¬ inT μ (xScr G (i + 1).toNat) (xScr G (i + 2).toNat))) → RR G l 1312 601024 7293033 false mL_law qL1 1030 (lll G i) [xi v] LAY m1 (bc - 1) (bs - 6) := by
    intro v m1 f1 hv
    have hv01 : iR v := by rcases hv with h | h <;> omega
    refine xr_istore' (ll' := [some (.ref (G.2.2.2 3)), some (xr G 0), some (xr G 74), some (xr G 130), some (xi i), some (xi v), none]) dL_law_1030 (by decide) rfl rfl ?_
    refine xr_aload_n dL_law_1032 rfl ?_
    refine xl_arg (j := 1) dL_law_1033 dL_law_1034 dL_law_1036 dL_law_1037 dL_law_1038 rfl rfl hL2 (by omega) ?_
    refine xl_arg (j := 2) dL_law_1039 dL_law_1040 dL_law_1042 dL_law_1043 dL_law_1044 rfl rfl hL2 (by omega) ?_
    have eA : ∀ m2, FrX [] [(74, 0)] m1 m2 → INV (N + 1) m2 := fun m2 f2 => hI.sc (f1.tr f2) (by decide) (by decide)
    have hM1 : CI G l 1311 mX12_told [xr G 74, xi (xScr G (i + 1).toNat), xi (xScr G (i + 2).toNat)] m1 (fun r m2 => FrX [] [(74, 0)] m1 m2 ∧ m2 74 0 = v ∧ (v = 0 → r = m1 130 0)) := by
      have hU5 := hU.1
      refine s_mTold (n := μ 64 5) r1 r2 (by rw [f1.f 74 76 (by decide), hU5]) (by rw [hU5]; exact hU.2.1) (fun i a b => by rw [hU5] at b; rw [f1.k 124 (by decide), f1.k 125 (by decide)]; exact (hU.2.2 i a b).2.2) (fun q => ⟨FrX.st, ?_, fun _ => ?_⟩) (fun q => ⟨FrX.st, ?_, fun q2 => ?_⟩)
      · rw [st_s]; rcases hv with h | h
        · exact h.1.symm
        · exact absurd q h.2
      · rw [f1.k 124 (by decide), f1.k 125 (by decide)]
        have hq := q.1
        rw [hU5] at hq
        have ht := hU.2.2 _ hq.1 hq.2
        rcases hv with h | h
        · rw [h.2.2]; unfold vaT; rw [ht.1, ht.2.1]
        · exact absurd q h.2
      · rw [st_s]; rcases hv with h | h
        · exact absurd h.2.1 q
        · exact h.1.symm
      · rcases hv with h | h
        · exact absurd h.2.1 q
        · omega
    refine xr_callV (As := [xi (xScr G (i + 1).toNat), xi (xScr G (i + 2).toNat)]) (d' := 1311) (mc' := 0) (ms' := 0) dL_law_1045 mi_X12_told ml_L_126 se_X12_told L_74 rfl rfl rfl (Nat.le_of_ble_eq_true rfl) (by decide) (Nat.zero_le _) (Nat.zero_le _) hM1 ?_
    rintro r6 lay' m2 ⟨rfl, y, rfl, hy, f2, e0, ey⟩
    refine xr_istore' (ll' := [some (.ref (G.2.2.2 3)), some (xr G 0), some (xr G 74), some (xr G 130), some (xi i), some (xi v), some (xi y)]) dL_law_1048 (by decide) rfl rfl ?_
    refine xr_aload_n dL_law_1050 rfl ?_
    refine xr_callV (As := []) (d' := 1311) (mc' := 0) (ms' := 0) dL_law_1051 mi_X12_thrown ml_L_79 se_X12_thrown L_74 rfl rfl rfl (Nat.le_of_ble_eq_true rfl) (by decide) (Nat.zero_le _) (Nat.zero_le _) (s_thrown (P := fun r m3 => r = v ∧ m3 = m2) (by rw [e0]; exact hv01) ⟨e0, rfl⟩) ?_
    rintro r7 lay' m3 ⟨rfl, y7, rfl, hy7, rfl, rfl⟩
    refine xr_iload dL_law_1054 rfl ?_
    refine xr_icmp_eq (tgt := 1061) dL_law_1056 (by decide) hy7 hy7 (fun _ => ?_) (fun c => absurd rfl c)
    refine xr_iload dL_law_1061 rfl ?_
    have fin : RR G l 1312 601024 7293033 false mL_law qL1 1078 [some (.ref (G.2.2.2 3)), some (xr G 0), some (xr G 74), some (xr G 130), some (xi i), some (xi y7), some (xi y)] [] LAY m3 (bc - 1) (bs - 6) := by
      refine xr_goto (tgt := 1181) dL_law_1078 (by decide) ?_
      exact xl_next rfl rfl ⟨rfl, rfl, rfl, rfl, rfl, trivial⟩ (K m3 (eA m3 f2))
    refine xr_if_ne (tgt := 1078) dL_law_1063 (by decide) hy7 (fun _ => fin) (fun c => ?_)
    refine xr_aload_n dL_law_1066 rfl ?_
    refine xr_iconst dL_law_1067 ?_
    refine xr_laload' (v := y) (N := 1) dL_law_1068 L_130 rfl (by decide) (by decide) (by rw [f2.k 130 (by decide)]; exact (ey c).symm) ?_
    refine xr_iload dL_law_1069 rfl ?_
    refine xr_i2l dL_law_1071 hy ?_
    refine xr_lcmp dL_law_1072 (by omega) (by omega) ?_
    have ec : jcmp y y = 0 := by unfold jcmp; rw [if_neg (by omega), if_pos rfl]
    rw [ec]
    exact xr_if_eq (tgt := 1078) dL_law_1073 (by decide) (by decide) (fun _ => fin) (fun c => absurd rfl c)
  rintro r lay' m1 ⟨rfl, ⟨hin, rfl, rfl⟩ | ⟨hin, rfl, rfl⟩⟩
  · exact go 0 _ FrX.sa (Or.inl ⟨rfl, hin, st_s _ _ _ _⟩)
  · exact go 1 _ FrX.rf (Or.inr ⟨rfl, hin⟩)
set_option maxRecDepth 20000 in
theorem lc_23 (hl : l.stackTraces = false) (hI : INV N μ) (hN9 : 0 ≤ N ∧ N ≤ 600) (hi : 0 ≤ i) (hL : i + 6 ≤ (G.2.2.2 4 : Int)) (hL2 : G.2.2.2 4 ≤ 3072) (hb : 1 ≤ bc ∧ 6 ≤ bs) (K : ∀ μ', INV (N + 1) μ' → KL G l (i + 6) μ' (bc - 1) (bs - 6)) : RR G l 1312 601024 7293033 false mL_law qL1 1081 (lll G i) [] LAY μ bc bs := by
  have hK0 : ∀ μ', INV (N + 1) μ' → KL G l (i + 6) μ' bc bs := fun μ' h => (K μ' h).less (by omega) (by omega)
  have sim : SIM G l 1311 mX11_send mX12_send [] N μ := op_send (G := G) (l := l) (d := 1251) hI  
  refine xr_aload_n dL_law_1081 rfl ?_
  refine xr_callV (As := []) (d' := 1311) (mc' := 0) (ms' := 0) dL_law_1082 mi_X11_send ml_L_127 se_X11_send L_0 rfl rfl rfl (Nat.le_of_ble_eq_true rfl) (by decide) (Nat.zero_le _) (Nat.zero_le _) sim ?_
  rintro r1 lay' m1 ⟨rfl, x1, rfl, hx1, sim2⟩
  refine xr_aload_n dL_law_1085 rfl ?_
  refine xr_callV (As := []) (d' := 1311) (mc' := 0) (ms' := 0) dL_law_1086 mi_X12_send ml_L_130 se_X12_send L_74 rfl rfl rfl (Nat.le_of_ble_eq_true rfl) (by decide) (Nat.zero_le _) (Nat.zero_le _) sim2 ?_
  rintro r2 lay' m2 ⟨rfl, x2, rfl, hx2, e, hI2⟩
  exact xr_icmp_eq (tgt := 1181) dL_law_1089 (by decide) hx1 hx2 (fun _ => xl_next rfl rfl ⟨rfl, rfl, rfl, rfl, rfl, trivial⟩ (hK0 m2 hI2)) (fun c => absurd e c)
set_option maxRecDepth 20000 in
theorem lc_24 (hl : l.stackTraces = false) (hI : INV N μ) (hN9 : 0 ≤ N ∧ N ≤ 600) (hi : 0 ≤ i) (hL : i + 6 ≤ (G.2.2.2 4 : Int)) (hL2 : G.2.2.2 4 ≤ 3072) (hb : 1 ≤ bc ∧ 6 ≤ bs) (K : ∀ μ', INV (N + 1) μ' → KL G l (i + 6) μ' (bc - 1) (bs - 6)) : RR G l 1312 601024 7293033 false mL_law qL1 1094 (lll G i) [] LAY μ bc bs := by
  have hK0 : ∀ μ', INV (N + 1) μ' → KL G l (i + 6) μ' bc bs := fun μ' h => (K μ' h).less (by omega) (by omega)
  have sim : SIM G l 1311 mX11_right mX12_right [xi (xScr G (i + 1).toNat), xi (xScr G (i + 2).toNat)] N μ := op_right (G := G) (l := l) (d := 1251) hI hN9 (xScr_R G (i + 1).toNat) (xScr_R G (i + 2).toNat)
  refine xr_aload_n dL_law_1094 rfl ?_
  refine xl_arg (j := 1) dL_law_1095 dL_law_1096 dL_law_1098 dL_law_1099 dL_law_1100 rfl rfl hL2 (by omega) ?_
  refine xl_arg (j := 2) dL_law_1101 dL_law_1102 dL_law_1104 dL_law_1105 dL_law_1106 rfl rfl hL2 (by omega) ?_
  refine xr_callV (As := [xi (xScr G (i + 1).toNat), xi (xScr G (i + 2).toNat)]) (d' := 1311) (mc' := 0) (ms' := 0) dL_law_1107 mi_X11_right ml_L_131 se_X11_right L_0 rfl rfl rfl (Nat.le_of_ble_eq_true rfl) (by decide) (Nat.zero_le _) (Nat.zero_le _) sim ?_
  rintro r1 lay' m1 ⟨rfl, x1, rfl, hx1, sim2⟩
  refine xr_aload_n dL_law_1110 rfl ?_
  refine xl_arg (j := 1) dL_law_1111 dL_law_1112 dL_law_1114 dL_law_1115 dL_law_1116 rfl rfl hL2 (by omega) ?_
  refine xl_arg (j := 2) dL_law_1117 dL_law_1118 dL_law_1120 dL_law_1121 dL_law_1122 rfl rfl hL2 (by omega) ?_
  refine xr_callV (As := [xi (xScr G (i + 1).toNat), xi (xScr G (i + 2).toNat)]) (d' := 1311) (mc' := 0) (ms' := 0) dL_law_1123 mi_X12_right ml_L_134 se_X12_right L_74 rfl rfl rfl (Nat.le_of_ble_eq_true rfl) (by decide) (Nat.zero_le _) (Nat.zero_le _) sim2 ?_
  rintro r2 lay' m2 ⟨rfl, x2, rfl, hx2, e, hI2⟩
  exact xr_icmp_eq (tgt := 1181) dL_law_1126 (by decide) hx1 hx2 (fun _ => xl_next rfl rfl ⟨rfl, rfl, rfl, rfl, rfl, trivial⟩ (hK0 m2 hI2)) (fun c => absurd e c)
set_option maxRecDepth 20000 in
theorem lc_25 (hl : l.stackTraces = false) (hI : INV N μ) (hN9 : 0 ≤ N ∧ N ≤ 600) (hi : 0 ≤ i) (hL : i + 6 ≤ (G.2.2.2 4 : Int)) (hL2 : G.2.2.2 4 ≤ 3072) (hb : 1 ≤ bc ∧ 6 ≤ bs) (K : ∀ μ', INV (N + 1) μ' → KL G l (i + 6) μ' (bc - 1) (bs - 6)) : RR G l 1312 601024 7293033 false mL_law qL1 1131 (lll G i) [] LAY μ bc bs := by
  have hK0 : ∀ μ', INV (N + 1) μ' → KL G l (i + 6) μ' bc bs := fun μ' h => (K μ' h).less (by omega) (by omega)
  have sim : SIM G l 1311 mX11_winner mX12_winner [xi (xScr G (i + 1).toNat)] N μ := op_winner (G := G) (l := l) (d := 1251) hI hN9 (xScr_R G (i + 1).toNat)
  refine xr_aload_n dL_law_1131 rfl ?_
  refine xl_arg (j := 1) dL_law_1132 dL_law_1133 dL_law_1135 dL_law_1136 dL_law_1137 rfl rfl hL2 (by omega) ?_
  refine xr_callV (As := [xi (xScr G (i + 1).toNat)]) (d' := 1311) (mc' := 0) (ms' := 0) dL_law_1138 mi_X11_winner ml_L_135 se_X11_winner L_0 rfl rfl rfl (Nat.le_of_ble_eq_true rfl) (by decide) (Nat.zero_le _) (Nat.zero_le _) sim ?_
  rintro r1 lay' m1 ⟨rfl, x1, rfl, hx1, sim2⟩
  refine xr_aload_n dL_law_1141 rfl ?_
  refine xl_arg (j := 1) dL_law_1142 dL_law_1143 dL_law_1145 dL_law_1146 dL_law_1147 rfl rfl hL2 (by omega) ?_
  refine xr_callV (As := [xi (xScr G (i + 1).toNat)]) (d' := 1311) (mc' := 0) (ms' := 0) dL_law_1148 mi_X12_winner ml_L_138 se_X12_winner L_74 rfl rfl rfl (Nat.le_of_ble_eq_true rfl) (by decide) (Nat.zero_le _) (Nat.zero_le _) sim2 ?_
  rintro r2 lay' m2 ⟨rfl, x2, rfl, hx2, e, hI2⟩
  exact xr_icmp_eq (tgt := 1181) dL_law_1151 (by decide) hx1 hx2 (fun _ => xl_next rfl rfl ⟨rfl, rfl, rfl, rfl, rfl, trivial⟩ (hK0 m2 hI2)) (fun c => absurd e c)
set_option maxRecDepth 20000 in
theorem lc_26 (hl : l.stackTraces = false) (hI : INV N μ) (hN9 : 0 ≤ N ∧ N ≤ 600) (hi : 0 ≤ i) (hL : i + 6 ≤ (G.2.2.2 4 : Int)) (hL2 : G.2.2.2 4 ≤ 3072) (hb : 1 ≤ bc ∧ 6 ≤ bs) (K : ∀ μ', INV (N + 1) μ' → KL G l (i + 6) μ' (bc - 1) (bs - 6)) : RR G l 1312 601024 7293033 false mL_law qL1 1156 (lll G i) [] LAY μ bc bs := by
  have hK0 : ∀ μ', INV (N + 1) μ' → KL G l (i + 6) μ' bc bs := fun μ' h => (K μ' h).less (by omega) (by omega)
  have sim : SIM G l 1311 mX11_count mX12_count [xi (xScr G (i + 1).toNat)] N μ := op_count (G := G) (l := l) (d := 1251) hI  (xScr_R G (i + 1).toNat)
  refine xr_aload_n dL_law_1156 rfl ?_
  refine xl_arg (j := 1) dL_law_1157 dL_law_1158 dL_law_1160 dL_law_1161 dL_law_1162 rfl rfl hL2 (by omega) ?_
  refine xr_callV (As := [xi (xScr G (i + 1).toNat)]) (d' := 1311) (mc' := 0) (ms' := 0) dL_law_1163 mi_X11_count ml_L_139 se_X11_count L_0 rfl rfl rfl (Nat.le_of_ble_eq_true rfl) (by decide) (Nat.zero_le _) (Nat.zero_le _) sim ?_
  rintro r1 lay' m1 ⟨rfl, x1, rfl, hx1, sim2⟩
  refine xr_aload_n dL_law_1166 rfl ?_
  refine xl_arg (j := 1) dL_law_1167 dL_law_1168 dL_law_1170 dL_law_1171 dL_law_1172 rfl rfl hL2 (by omega) ?_
  refine xr_callV (As := [xi (xScr G (i + 1).toNat)]) (d' := 1311) (mc' := 0) (ms' := 0) dL_law_1173 mi_X12_count ml_L_142 se_X12_count L_74 rfl rfl rfl (Nat.le_of_ble_eq_true rfl) (by decide) (Nat.zero_le _) (Nat.zero_le _) sim2 ?_
  rintro r2 lay' m2 ⟨rfl, x2, rfl, hx2, e, hI2⟩
  exact xr_icmp_eq (tgt := 1181) dL_law_1176 (by decide) hx1 hx2 (fun _ => xl_next rfl rfl ⟨rfl, rfl, rfl, rfl, rfl, trivial⟩ (hK0 m2 hI2)) (fun c => absurd e c)
/-- the loop -/
theorem law_loop (hl : l.stackTraces = false) (hL2 : G.2.2.2 4 ≤ 3072) : ∀ (n : Nat) (i N : Int) (μ : xMem) (bc bs : Nat), 0 ≤ i → (G.2.2.2 4 : Int) < i + 6 * n + 6 → i ≤ 3072 → INV N μ → 0 ≤ N → N + n ≤ 600 → n ≤ bc → 6 * n ≤ bs → KL G l i μ bc bs := by
  intro n
  induction n with
  | zero =>
    intro i N μ bc bs hi hn hi2 hI h0 hN h1 h2
    unfold KL
    refine xr_iload dL_law_23 rfl ?_
    refine xr_aloadA dL_law_25 rfl ?_
    refine xr_scrlen dL_law_26 ?_
    refine xr_bipush dL_law_27 (by decide) ?_
    refine xr_isub dL_law_29 ?_
    refine xr_icmp_gt (tgt := 1187) dL_law_30 (by decide) (by omega) (by omega) (fun c => ?_) (fun c => by omega)
    refine xr_iconst dL_law_1187 ?_
    exact xr_zret dL_law_1188 rfl (by decide) rfl
  | succ n ih =>
    intro i N μ bc bs hi hn hi2 hI h0 hN h1 h2
    unfold KL
    refine xr_iload dL_law_23 rfl ?_
    refine xr_aloadA dL_law_25 rfl ?_
    refine xr_scrlen dL_law_26 ?_
    refine xr_bipush dL_law_27 (by decide) ?_
    refine xr_isub dL_law_29 ?_
    refine xr_icmp_gt (tgt := 1187) dL_law_30 (by decide) (by omega) (by omega) (fun c => ?_) (fun c => ?_)
    · refine xr_iconst dL_law_1187 ?_
      exact xr_zret dL_law_1188 rfl (by decide) rfl
    · have hL : i + 6 ≤ (G.2.2.2 4 : Int) := by omega
      have hN9 : 0 ≤ N ∧ N ≤ 600 := by omega
      have hb : 1 ≤ bc ∧ 6 ≤ bs := by omega
      have K : ∀ μ', INV (N + 1) μ' → KL G l (i + 6) μ' (bc - 1) (bs - 6) := fun μ' h => ih (i + 6) (N + 1) μ' (bc - 1) (bs - 6) (by omega) (by omega) (by omega) h (by omega) (by omega) (by omega) (by omega)
      refine xr_aloadA dL_law_33 rfl ?_
      refine xr_iload dL_law_34 rfl ?_
      refine xr_scr dL_law_36 hL2 (by omega) ?_
      refine xr_bipush dL_law_37 (by decide) ?_
      refine xr_iand dL_law_39 ?_
      have hx := jR_and (xScr G i.toNat) 31
      generalize jand (xScr G i.toNat) 31 = x at *
      by_cases out : x < 0 ∨ 26 < x
      · refine xr_tabOut (tgt := 1181) dL_law_40 hx out (by decide) ?_
        exact xl_next rfl rfl ⟨rfl, rfl, rfl, rfl, rfl, trivial⟩ ((K μ (hI.sc (S := []) (T := []) FrX.rf (by decide) (by decide))).less (by omega) (by omega))
      · have hc : x = 0 ∨ x = 1 ∨ x = 2 ∨ x = 3 ∨ x = 4 ∨ x = 5 ∨ x = 6 ∨ x = 7 ∨ x = 8 ∨ x = 9 ∨ x = 10 ∨ x = 11 ∨ x = 12 ∨ x = 13 ∨ x = 14 ∨ x = 15 ∨ x = 16 ∨ x = 17 ∨ x = 18 ∨ x = 19 ∨ x = 20 ∨ x = 21 ∨ x = 22 ∨ x = 23 ∨ x = 24 ∨ x = 25 ∨ x = 26 := by omega
        rcases hc with h | h | h | h | h | h | h | h | h | h | h | h | h | h | h | h | h | h | h | h | h | h | h | h | h | h | h
        · subst h; exact xr_tabIn (tgt := 164) dL_law_40 (by decide) (by decide) (by decide) rfl (by decide) (lc_0 hl hI hN9 hi hL hL2 hb K)
        · subst h; exact xr_tabIn (tgt := 237) dL_law_40 (by decide) (by decide) (by decide) rfl (by decide) (lc_1 hl hI hN9 hi hL hL2 hb K)
        · subst h; exact xr_tabIn (tgt := 262) dL_law_40 (by decide) (by decide) (by decide) rfl (by decide) (lc_2 hl hI hN9 hi hL hL2 hb K)
        · subst h; exact xr_tabIn (tgt := 287) dL_law_40 (by decide) (by decide) (by decide) rfl (by decide) (lc_3 hl hI hN9 hi hL hL2 hb K)
        · subst h; exact xr_tabIn (tgt := 300) dL_law_40 (by decide) (by decide) (by decide) rfl (by decide) (lc_4 hl hI hN9 hi hL hL2 hb K)
        · subst h; exact xr_tabIn (tgt := 337) dL_law_40 (by decide) (by decide) (by decide) rfl (by decide) (lc_5 hl hI hN9 hi hL hL2 hb K)
        · subst h; exact xr_tabIn (tgt := 374) dL_law_40 (by decide) (by decide) (by decide) rfl (by decide) (lc_6 hl hI hN9 hi hL hL2 hb K)
        · subst h; exact xr_tabIn (tgt := 411) dL_law_40 (by decide) (by decide) (by decide) rfl (by decide) (lc_7 hl hI hN9 hi hL hL2 hb K)
        · subst h; exact xr_tabIn (tgt := 488) dL_law_40 (by decide) (by decide) (by decide) rfl (by decide) (lc_8 hl hI hN9 hi hL hL2 hb K)
        · subst h; exact xr_tabIn (tgt := 525) dL_law_40 (by decide) (by decide) (by decide) rfl (by decide) (lc_9 hl hI hN9 hi hL hL2 hb K)
        · subst h; exact xr_tabIn (tgt := 574) dL_law_40 (by decide) (by decide) (by decide) rfl (by decide) (lc_10 hl hI hN9 hi hL hL2 hb K)
        · subst h; exact xr_tabIn (tgt := 623) dL_law_40 (by decide) (by decide) (by decide) rfl (by decide) (lc_11 hl hI hN9 hi hL hL2 hb K)
        · subst h; exact xr_tabIn (tgt := 679) dL_law_40 (by decide) (by decide) (by decide) rfl (by decide) (lc_12 hl hI hN9 hi hL hL2 hb K)
        · subst h; exact xr_tabIn (tgt := 716) dL_law_40 (by decide) (by decide) (by decide) rfl (by decide) (lc_13 hl hI hN9 hi hL hL2 hb K)
        · subst h; exact xr_tabIn (tgt := 765) dL_law_40 (by decide) (by decide) (by decide) rfl (by decide) (lc_14 hl hI hN9 hi hL hL2 hb K)
        · subst h; exact xr_tabIn (tgt := 814) dL_law_40 (by decide) (by decide) (by decide) rfl (by decide) (lc_15 hl hI hN9 hi hL hL2 hb K)
        · subst h; exact xr_tabIn (tgt := 851) dL_law_40 (by decide) (by decide) (by decide) rfl (by decide) (lc_16 hl hI hN9 hi hL hL2 hb K)
        · subst h; exact xr_tabIn (tgt := 888) dL_law_40 (by decide) (by decide) (by decide) rfl (by decide) (lc_17 hl hI hN9 hi hL hL2 hb K)
        · subst h; exact xr_tabIn (tgt := 913) dL_law_40 (by decide) (by decide) (by decide) rfl (by decide) (lc_18 hl hI hN9 hi hL hL2 hb K)
        · subst h; exact xr_tabIn (tgt := 938) dL_law_40 (by decide) (by decide) (by decide) rfl (by decide) (lc_19 hl hI hN9 hi hL hL2 hb K)
        · subst h; exact xr_tabIn (tgt := 963) dL_law_40 (by decide) (by decide) (by decide) rfl (by decide) (lc_20 hl hI hN9 hi hL hL2 hb K)
        · subst h; exact xr_tabIn (tgt := 988) dL_law_40 (by decide) (by decide) (by decide) rfl (by decide) (lc_21 hl hI hN9 hi hL hL2 hb K)
        · subst h; exact xr_tabIn (tgt := 1013) dL_law_40 (by decide) (by decide) (by decide) rfl (by decide) (lc_22 hl hI hN9 hi hL hL2 hb K)
        · subst h; exact xr_tabIn (tgt := 1081) dL_law_40 (by decide) (by decide) (by decide) rfl (by decide) (lc_23 hl hI hN9 hi hL hL2 hb K)
        · subst h; exact xr_tabIn (tgt := 1094) dL_law_40 (by decide) (by decide) (by decide) rfl (by decide) (lc_24 hl hI hN9 hi hL hL2 hb K)
        · subst h; exact xr_tabIn (tgt := 1131) dL_law_40 (by decide) (by decide) (by decide) rfl (by decide) (lc_25 hl hI hN9 hi hL hL2 hb K)
        · subst h; exact xr_tabIn (tgt := 1156) dL_law_40 (by decide) (by decide) (by decide) rfl (by decide) (lc_26 hl hI hN9 hi hL hL2 hb K)
end LawA
