abbrev b_La_law : ByteArray := code
theorem d_La_law_0 : decode b_La_law 0 = .ok (.new 8, 3) := by decide +kernel
theorem d_La_law_3 : decode b_La_law 3 = .ok (.dup, 1) := by decide +kernel
theorem d_La_law_4 : decode b_La_law 4 = .ok (.aload_n 0, 1) := by decide +kernel
theorem d_La_law_5 : decode b_La_law 5 = .ok (.iconst 0, 1) := by decide +kernel
theorem d_La_law_6 : decode b_La_law 6 = .ok (.invokestatic 69, 3) := by decide +kernel
theorem d_La_law_9 : decode b_La_law 9 = .ok (.invokespecial 75, 3) := by decide +kernel
theorem d_La_law_12 : decode b_La_law 12 = .ok (.astore_n 1, 1) := by decide +kernel
theorem d_La_law_13 : decode b_La_law 13 = .ok (.new 77, 3) := by decide +kernel
theorem d_La_law_16 : decode b_La_law 16 = .ok (.dup, 1) := by decide +kernel
theorem d_La_law_17 : decode b_La_law 17 = .ok (.aload_n 0, 1) := by decide +kernel
theorem d_La_law_18 : decode b_La_law 18 = .ok (.iconst 0, 1) := by decide +kernel
theorem d_La_law_19 : decode b_La_law 19 = .ok (.invokestatic 69, 3) := by decide +kernel
theorem d_La_law_22 : decode b_La_law 22 = .ok (.invokespecial 79, 3) := by decide +kernel
theorem d_La_law_25 : decode b_La_law 25 = .ok (.astore_n 2, 1) := by decide +kernel
theorem d_La_law_26 : decode b_La_law 26 = .ok (.iconst 1, 1) := by decide +kernel
theorem d_La_law_27 : decode b_La_law 27 = .ok (.newarray .long, 2) := by decide +kernel
theorem d_La_law_29 : decode b_La_law 29 = .ok (.astore_n 3, 1) := by decide +kernel
theorem d_La_law_30 : decode b_La_law 30 = .ok (.iconst 1, 1) := by decide +kernel
theorem d_La_law_31 : decode b_La_law 31 = .ok (.istore 4, 2) := by decide +kernel
theorem d_La_law_33 : decode b_La_law 33 = .ok (.iload 4, 2) := by decide +kernel
theorem d_La_law_35 : decode b_La_law 35 = .ok (.aload_n 0, 1) := by decide +kernel
theorem d_La_law_36 : decode b_La_law 36 = .ok (.arraylength, 1) := by decide +kernel
theorem d_La_law_37 : decode b_La_law 37 = .ok (.bipush 6, 2) := by decide +kernel
theorem d_La_law_39 : decode b_La_law 39 = .ok (.isub, 1) := by decide +kernel
theorem d_La_law_40 : decode b_La_law 40 = .ok (.if_icmp .gt 1354, 3) := by decide +kernel
theorem d_La_law_43 : decode b_La_law 43 = .ok (.aload_n 0, 1) := by decide +kernel
theorem d_La_law_44 : decode b_La_law 44 = .ok (.iload 4, 2) := by decide +kernel
theorem d_La_law_46 : decode b_La_law 46 = .ok (.iaload, 1) := by decide +kernel
theorem d_La_law_47 : decode b_La_law 47 = .ok (.bipush 31, 2) := by decide +kernel
theorem d_La_law_49 : decode b_La_law 49 = .ok (.iand, 1) := by decide +kernel
theorem d_La_law_50 : decode b_La_law 50 = .ok (.tableswitch 1338 0 23 #[110, 181, 206, 217, 309, 358, 371, 384, 421, 465, 533, 600, 668, 724, 775, 847, 903, 983, 1051, 1087, 1159, 1196, 1233, 1270], 110) := by decide +kernel
theorem d_La_law_160 : decode b_La_law 160 = .ok (.aload_n 1, 1) := by decide +kernel
theorem d_La_law_161 : decode b_La_law 161 = .ok (.aload_n 0, 1) := by decide +kernel
theorem d_La_law_162 : decode b_La_law 162 = .ok (.iload 4, 2) := by decide +kernel
theorem d_La_law_164 : decode b_La_law 164 = .ok (.iconst 1, 1) := by decide +kernel
theorem d_La_law_165 : decode b_La_law 165 = .ok (.iadd, 1) := by decide +kernel
theorem d_La_law_166 : decode b_La_law 166 = .ok (.iaload, 1) := by decide +kernel
theorem d_La_law_167 : decode b_La_law 167 = .ok (.aload_n 0, 1) := by decide +kernel
theorem d_La_law_168 : decode b_La_law 168 = .ok (.iload 4, 2) := by decide +kernel
theorem d_La_law_170 : decode b_La_law 170 = .ok (.iconst 2, 1) := by decide +kernel
theorem d_La_law_171 : decode b_La_law 171 = .ok (.iadd, 1) := by decide +kernel
theorem d_La_law_172 : decode b_La_law 172 = .ok (.iaload, 1) := by decide +kernel
theorem d_La_law_173 : decode b_La_law 173 = .ok (.aload_n 0, 1) := by decide +kernel
theorem d_La_law_174 : decode b_La_law 174 = .ok (.iload 4, 2) := by decide +kernel
theorem d_La_law_176 : decode b_La_law 176 = .ok (.iconst 3, 1) := by decide +kernel
theorem d_La_law_177 : decode b_La_law 177 = .ok (.iadd, 1) := by decide +kernel
theorem d_La_law_178 : decode b_La_law 178 = .ok (.iaload, 1) := by decide +kernel
theorem d_La_law_179 : decode b_La_law 179 = .ok (.aload_n 0, 1) := by decide +kernel
theorem d_La_law_180 : decode b_La_law 180 = .ok (.iload 4, 2) := by decide +kernel
theorem d_La_law_182 : decode b_La_law 182 = .ok (.iconst 4, 1) := by decide +kernel
theorem d_La_law_183 : decode b_La_law 183 = .ok (.iadd, 1) := by decide +kernel
theorem d_La_law_184 : decode b_La_law 184 = .ok (.iaload, 1) := by decide +kernel
theorem d_La_law_185 : decode b_La_law 185 = .ok (.aload_n 0, 1) := by decide +kernel
theorem d_La_law_186 : decode b_La_law 186 = .ok (.iload 4, 2) := by decide +kernel
theorem d_La_law_188 : decode b_La_law 188 = .ok (.iconst 5, 1) := by decide +kernel
theorem d_La_law_189 : decode b_La_law 189 = .ok (.iadd, 1) := by decide +kernel
theorem d_La_law_190 : decode b_La_law 190 = .ok (.iaload, 1) := by decide +kernel
theorem d_La_law_191 : decode b_La_law 191 = .ok (.invokevirtual 80, 3) := by decide +kernel
theorem d_La_law_194 : decode b_La_law 194 = .ok (.aload_n 2, 1) := by decide +kernel
theorem d_La_law_195 : decode b_La_law 195 = .ok (.aload_n 0, 1) := by decide +kernel
theorem d_La_law_196 : decode b_La_law 196 = .ok (.iload 4, 2) := by decide +kernel
theorem d_La_law_198 : decode b_La_law 198 = .ok (.iconst 1, 1) := by decide +kernel
theorem d_La_law_199 : decode b_La_law 199 = .ok (.iadd, 1) := by decide +kernel
theorem d_La_law_200 : decode b_La_law 200 = .ok (.iaload, 1) := by decide +kernel
theorem d_La_law_201 : decode b_La_law 201 = .ok (.aload_n 0, 1) := by decide +kernel
theorem d_La_law_202 : decode b_La_law 202 = .ok (.iload 4, 2) := by decide +kernel
theorem d_La_law_204 : decode b_La_law 204 = .ok (.iconst 2, 1) := by decide +kernel
theorem d_La_law_205 : decode b_La_law 205 = .ok (.iadd, 1) := by decide +kernel
theorem d_La_law_206 : decode b_La_law 206 = .ok (.iaload, 1) := by decide +kernel
theorem d_La_law_207 : decode b_La_law 207 = .ok (.aload_n 0, 1) := by decide +kernel
theorem d_La_law_208 : decode b_La_law 208 = .ok (.iload 4, 2) := by decide +kernel
theorem d_La_law_210 : decode b_La_law 210 = .ok (.iconst 3, 1) := by decide +kernel
theorem d_La_law_211 : decode b_La_law 211 = .ok (.iadd, 1) := by decide +kernel
theorem d_La_law_212 : decode b_La_law 212 = .ok (.iaload, 1) := by decide +kernel
theorem d_La_law_213 : decode b_La_law 213 = .ok (.aload_n 0, 1) := by decide +kernel
theorem d_La_law_214 : decode b_La_law 214 = .ok (.iload 4, 2) := by decide +kernel
theorem d_La_law_216 : decode b_La_law 216 = .ok (.iconst 4, 1) := by decide +kernel
theorem d_La_law_217 : decode b_La_law 217 = .ok (.iadd, 1) := by decide +kernel
theorem d_La_law_218 : decode b_La_law 218 = .ok (.iaload, 1) := by decide +kernel
theorem d_La_law_219 : decode b_La_law 219 = .ok (.aload_n 0, 1) := by decide +kernel
theorem d_La_law_220 : decode b_La_law 220 = .ok (.iload 4, 2) := by decide +kernel
theorem d_La_law_222 : decode b_La_law 222 = .ok (.iconst 5, 1) := by decide +kernel
theorem d_La_law_223 : decode b_La_law 223 = .ok (.iadd, 1) := by decide +kernel
theorem d_La_law_224 : decode b_La_law 224 = .ok (.iaload, 1) := by decide +kernel
theorem d_La_law_225 : decode b_La_law 225 = .ok (.invokevirtual 84, 3) := by decide +kernel
theorem d_La_law_228 : decode b_La_law 228 = .ok (.goto 1160, 3) := by decide +kernel
theorem d_La_law_231 : decode b_La_law 231 = .ok (.aload_n 1, 1) := by decide +kernel
theorem d_La_law_232 : decode b_La_law 232 = .ok (.aload_n 0, 1) := by decide +kernel
theorem d_La_law_233 : decode b_La_law 233 = .ok (.iload 4, 2) := by decide +kernel
theorem d_La_law_235 : decode b_La_law 235 = .ok (.iconst 1, 1) := by decide +kernel
theorem d_La_law_236 : decode b_La_law 236 = .ok (.iadd, 1) := by decide +kernel
theorem d_La_law_237 : decode b_La_law 237 = .ok (.iaload, 1) := by decide +kernel
theorem d_La_law_238 : decode b_La_law 238 = .ok (.invokevirtual 85, 3) := by decide +kernel
theorem d_La_law_241 : decode b_La_law 241 = .ok (.aload_n 2, 1) := by decide +kernel
theorem d_La_law_242 : decode b_La_law 242 = .ok (.aload_n 0, 1) := by decide +kernel
theorem d_La_law_243 : decode b_La_law 243 = .ok (.iload 4, 2) := by decide +kernel
theorem d_La_law_245 : decode b_La_law 245 = .ok (.iconst 1, 1) := by decide +kernel
theorem d_La_law_246 : decode b_La_law 246 = .ok (.iadd, 1) := by decide +kernel
theorem d_La_law_247 : decode b_La_law 247 = .ok (.iaload, 1) := by decide +kernel
theorem d_La_law_248 : decode b_La_law 248 = .ok (.invokevirtual 88, 3) := by decide +kernel
theorem d_La_law_251 : decode b_La_law 251 = .ok (.if_icmp .eq 1137, 3) := by decide +kernel
theorem d_La_law_254 : decode b_La_law 254 = .ok (.iconst 0, 1) := by decide +kernel
theorem d_La_law_256 : decode b_La_law 256 = .ok (.aload_n 1, 1) := by decide +kernel
theorem d_La_law_257 : decode b_La_law 257 = .ok (.invokevirtual 89, 3) := by decide +kernel
theorem d_La_law_260 : decode b_La_law 260 = .ok (.aload_n 2, 1) := by decide +kernel
theorem d_La_law_261 : decode b_La_law 261 = .ok (.invokevirtual 92, 3) := by decide +kernel
theorem d_La_law_264 : decode b_La_law 264 = .ok (.goto 1124, 3) := by decide +kernel
theorem d_La_law_267 : decode b_La_law 267 = .ok (.aload_n 1, 1) := by decide +kernel
theorem d_La_law_268 : decode b_La_law 268 = .ok (.aload_n 0, 1) := by decide +kernel
theorem d_La_law_269 : decode b_La_law 269 = .ok (.iload 4, 2) := by decide +kernel
theorem d_La_law_271 : decode b_La_law 271 = .ok (.iconst 1, 1) := by decide +kernel
theorem d_La_law_272 : decode b_La_law 272 = .ok (.iadd, 1) := by decide +kernel
theorem d_La_law_273 : decode b_La_law 273 = .ok (.iaload, 1) := by decide +kernel
theorem d_La_law_274 : decode b_La_law 274 = .ok (.aload_n 0, 1) := by decide +kernel
theorem d_La_law_275 : decode b_La_law 275 = .ok (.iload 4, 2) := by decide +kernel
theorem d_La_law_277 : decode b_La_law 277 = .ok (.iconst 2, 1) := by decide +kernel
theorem d_La_law_278 : decode b_La_law 278 = .ok (.iadd, 1) := by decide +kernel
theorem d_La_law_279 : decode b_La_law 279 = .ok (.iaload, 1) := by decide +kernel
theorem d_La_law_280 : decode b_La_law 280 = .ok (.aload_n 0, 1) := by decide +kernel
theorem d_La_law_281 : decode b_La_law 281 = .ok (.iload 4, 2) := by decide +kernel
theorem d_La_law_283 : decode b_La_law 283 = .ok (.iconst 3, 1) := by decide +kernel
theorem d_La_law_284 : decode b_La_law 284 = .ok (.iadd, 1) := by decide +kernel
theorem d_La_law_285 : decode b_La_law 285 = .ok (.iaload, 1) := by decide +kernel
theorem d_La_law_286 : decode b_La_law 286 = .ok (.aload_n 0, 1) := by decide +kernel
theorem d_La_law_287 : decode b_La_law 287 = .ok (.iload 4, 2) := by decide +kernel
theorem d_La_law_289 : decode b_La_law 289 = .ok (.iconst 4, 1) := by decide +kernel
theorem d_La_law_290 : decode b_La_law 290 = .ok (.iadd, 1) := by decide +kernel
theorem d_La_law_291 : decode b_La_law 291 = .ok (.iaload, 1) := by decide +kernel
theorem d_La_law_292 : decode b_La_law 292 = .ok (.aload_n 3, 1) := by decide +kernel
theorem d_La_law_293 : decode b_La_law 293 = .ok (.invokestatic 93, 3) := by decide +kernel
theorem d_La_law_296 : decode b_La_law 296 = .ok (.istore 5, 2) := by decide +kernel
theorem d_La_law_298 : decode b_La_law 298 = .ok (.aload_n 2, 1) := by decide +kernel
theorem d_La_law_299 : decode b_La_law 299 = .ok (.aload_n 0, 1) := by decide +kernel
theorem d_La_law_300 : decode b_La_law 300 = .ok (.iload 4, 2) := by decide +kernel
theorem d_La_law_302 : decode b_La_law 302 = .ok (.iconst 1, 1) := by decide +kernel
theorem d_La_law_303 : decode b_La_law 303 = .ok (.iadd, 1) := by decide +kernel
theorem d_La_law_304 : decode b_La_law 304 = .ok (.iaload, 1) := by decide +kernel
theorem d_La_law_305 : decode b_La_law 305 = .ok (.aload_n 0, 1) := by decide +kernel
theorem d_La_law_306 : decode b_La_law 306 = .ok (.iload 4, 2) := by decide +kernel
theorem d_La_law_308 : decode b_La_law 308 = .ok (.iconst 2, 1) := by decide +kernel
theorem d_La_law_309 : decode b_La_law 309 = .ok (.iadd, 1) := by decide +kernel
theorem d_La_law_310 : decode b_La_law 310 = .ok (.iaload, 1) := by decide +kernel
theorem d_La_law_311 : decode b_La_law 311 = .ok (.aload_n 0, 1) := by decide +kernel
theorem d_La_law_312 : decode b_La_law 312 = .ok (.iload 4, 2) := by decide +kernel
theorem d_La_law_314 : decode b_La_law 314 = .ok (.iconst 3, 1) := by decide +kernel
theorem d_La_law_315 : decode b_La_law 315 = .ok (.iadd, 1) := by decide +kernel
theorem d_La_law_316 : decode b_La_law 316 = .ok (.iaload, 1) := by decide +kernel
theorem d_La_law_317 : decode b_La_law 317 = .ok (.aload_n 0, 1) := by decide +kernel
theorem d_La_law_318 : decode b_La_law 318 = .ok (.iload 4, 2) := by decide +kernel
theorem d_La_law_320 : decode b_La_law 320 = .ok (.iconst 4, 1) := by decide +kernel
theorem d_La_law_321 : decode b_La_law 321 = .ok (.iadd, 1) := by decide +kernel
theorem d_La_law_322 : decode b_La_law 322 = .ok (.iaload, 1) := by decide +kernel
theorem d_La_law_323 : decode b_La_law 323 = .ok (.invokevirtual 96, 3) := by decide +kernel
theorem d_La_law_326 : decode b_La_law 326 = .ok (.istore 6, 2) := by decide +kernel
theorem d_La_law_328 : decode b_La_law 328 = .ok (.aload_n 2, 1) := by decide +kernel
theorem d_La_law_329 : decode b_La_law 329 = .ok (.invokevirtual 97, 3) := by decide +kernel
theorem d_La_law_332 : decode b_La_law 332 = .ok (.iload 5, 2) := by decide +kernel
theorem d_La_law_334 : decode b_La_law 334 = .ok (.if_icmp .eq 5, 3) := by decide +kernel
theorem d_La_law_337 : decode b_La_law 337 = .ok (.iconst 0, 1) := by decide +kernel
theorem d_La_law_339 : decode b_La_law 339 = .ok (.iload 5, 2) := by decide +kernel
theorem d_La_law_341 : decode b_La_law 341 = .ok (.ifCond .ne 15, 3) := by decide +kernel
theorem d_La_law_344 : decode b_La_law 344 = .ok (.aload_n 3, 1) := by decide +kernel
theorem d_La_law_345 : decode b_La_law 345 = .ok (.iconst 0, 1) := by decide +kernel
theorem d_La_law_346 : decode b_La_law 346 = .ok (.laload, 1) := by decide +kernel
theorem d_La_law_347 : decode b_La_law 347 = .ok (.iload 6, 2) := by decide +kernel
theorem d_La_law_349 : decode b_La_law 349 = .ok (.i2l, 1) := by decide +kernel
theorem d_La_law_350 : decode b_La_law 350 = .ok (.lcmp, 1) := by decide +kernel
theorem d_La_law_351 : decode b_La_law 351 = .ok (.ifCond .eq 5, 3) := by decide +kernel
theorem d_La_law_354 : decode b_La_law 354 = .ok (.iconst 0, 1) := by decide +kernel
theorem d_La_law_356 : decode b_La_law 356 = .ok (.goto 1032, 3) := by decide +kernel
theorem d_La_law_359 : decode b_La_law 359 = .ok (.aload_n 1, 1) := by decide +kernel
theorem d_La_law_360 : decode b_La_law 360 = .ok (.aload_n 0, 1) := by decide +kernel
theorem d_La_law_361 : decode b_La_law 361 = .ok (.iload 4, 2) := by decide +kernel
theorem d_La_law_363 : decode b_La_law 363 = .ok (.iconst 1, 1) := by decide +kernel
theorem d_La_law_364 : decode b_La_law 364 = .ok (.iadd, 1) := by decide +kernel
theorem d_La_law_365 : decode b_La_law 365 = .ok (.iaload, 1) := by decide +kernel
theorem d_La_law_366 : decode b_La_law 366 = .ok (.aload_n 0, 1) := by decide +kernel
theorem d_La_law_367 : decode b_La_law 367 = .ok (.iload 4, 2) := by decide +kernel
theorem d_La_law_369 : decode b_La_law 369 = .ok (.iconst 2, 1) := by decide +kernel
theorem d_La_law_370 : decode b_La_law 370 = .ok (.iadd, 1) := by decide +kernel
theorem d_La_law_371 : decode b_La_law 371 = .ok (.iaload, 1) := by decide +kernel
theorem d_La_law_372 : decode b_La_law 372 = .ok (.aload_n 0, 1) := by decide +kernel
theorem d_La_law_373 : decode b_La_law 373 = .ok (.iload 4, 2) := by decide +kernel
theorem d_La_law_375 : decode b_La_law 375 = .ok (.iconst 3, 1) := by decide +kernel
theorem d_La_law_376 : decode b_La_law 376 = .ok (.iadd, 1) := by decide +kernel
theorem d_La_law_377 : decode b_La_law 377 = .ok (.iaload, 1) := by decide +kernel
theorem d_La_law_378 : decode b_La_law 378 = .ok (.invokevirtual 100, 3) := by decide +kernel
theorem d_La_law_381 : decode b_La_law 381 = .ok (.aload_n 2, 1) := by decide +kernel
theorem d_La_law_382 : decode b_La_law 382 = .ok (.aload_n 0, 1) := by decide +kernel
theorem d_La_law_383 : decode b_La_law 383 = .ok (.iload 4, 2) := by decide +kernel
theorem d_La_law_385 : decode b_La_law 385 = .ok (.iconst 1, 1) := by decide +kernel
theorem d_La_law_386 : decode b_La_law 386 = .ok (.iadd, 1) := by decide +kernel
theorem d_La_law_387 : decode b_La_law 387 = .ok (.iaload, 1) := by decide +kernel
theorem d_La_law_388 : decode b_La_law 388 = .ok (.aload_n 0, 1) := by decide +kernel
theorem d_La_law_389 : decode b_La_law 389 = .ok (.iload 4, 2) := by decide +kernel
theorem d_La_law_391 : decode b_La_law 391 = .ok (.iconst 2, 1) := by decide +kernel
theorem d_La_law_392 : decode b_La_law 392 = .ok (.iadd, 1) := by decide +kernel
theorem d_La_law_393 : decode b_La_law 393 = .ok (.iaload, 1) := by decide +kernel
theorem d_La_law_394 : decode b_La_law 394 = .ok (.aload_n 0, 1) := by decide +kernel
theorem d_La_law_395 : decode b_La_law 395 = .ok (.iload 4, 2) := by decide +kernel
theorem d_La_law_397 : decode b_La_law 397 = .ok (.iconst 3, 1) := by decide +kernel
theorem d_La_law_398 : decode b_La_law 398 = .ok (.iadd, 1) := by decide +kernel
theorem d_La_law_399 : decode b_La_law 399 = .ok (.iaload, 1) := by decide +kernel
theorem d_La_law_400 : decode b_La_law 400 = .ok (.invokevirtual 104, 3) := by decide +kernel
theorem d_La_law_403 : decode b_La_law 403 = .ok (.if_icmp .eq 985, 3) := by decide +kernel
theorem d_La_law_406 : decode b_La_law 406 = .ok (.iconst 0, 1) := by decide +kernel
theorem d_La_law_408 : decode b_La_law 408 = .ok (.aload_n 1, 1) := by decide +kernel
theorem d_La_law_409 : decode b_La_law 409 = .ok (.invokevirtual 105, 3) := by decide +kernel
theorem d_La_law_412 : decode b_La_law 412 = .ok (.aload_n 2, 1) := by decide +kernel
theorem d_La_law_413 : decode b_La_law 413 = .ok (.invokevirtual 108, 3) := by decide +kernel
theorem d_La_law_416 : decode b_La_law 416 = .ok (.if_icmp .eq 972, 3) := by decide +kernel
theorem d_La_law_419 : decode b_La_law 419 = .ok (.iconst 0, 1) := by decide +kernel
theorem d_La_law_421 : decode b_La_law 421 = .ok (.aload_n 1, 1) := by decide +kernel
theorem d_La_law_422 : decode b_La_law 422 = .ok (.invokevirtual 109, 3) := by decide +kernel
theorem d_La_law_425 : decode b_La_law 425 = .ok (.aload_n 2, 1) := by decide +kernel
theorem d_La_law_426 : decode b_La_law 426 = .ok (.invokevirtual 112, 3) := by decide +kernel
theorem d_La_law_429 : decode b_La_law 429 = .ok (.if_icmp .eq 959, 3) := by decide +kernel
theorem d_La_law_432 : decode b_La_law 432 = .ok (.iconst 0, 1) := by decide +kernel
theorem d_La_law_434 : decode b_La_law 434 = .ok (.aload_n 1, 1) := by decide +kernel
theorem d_La_law_435 : decode b_La_law 435 = .ok (.aload_n 0, 1) := by decide +kernel
theorem d_La_law_436 : decode b_La_law 436 = .ok (.iload 4, 2) := by decide +kernel
theorem d_La_law_438 : decode b_La_law 438 = .ok (.iconst 1, 1) := by decide +kernel
theorem d_La_law_439 : decode b_La_law 439 = .ok (.iadd, 1) := by decide +kernel
theorem d_La_law_440 : decode b_La_law 440 = .ok (.iaload, 1) := by decide +kernel
theorem d_La_law_441 : decode b_La_law 441 = .ok (.aload_n 0, 1) := by decide +kernel
theorem d_La_law_442 : decode b_La_law 442 = .ok (.iload 4, 2) := by decide +kernel
theorem d_La_law_444 : decode b_La_law 444 = .ok (.iconst 2, 1) := by decide +kernel
theorem d_La_law_445 : decode b_La_law 445 = .ok (.iadd, 1) := by decide +kernel
theorem d_La_law_446 : decode b_La_law 446 = .ok (.iaload, 1) := by decide +kernel
theorem d_La_law_447 : decode b_La_law 447 = .ok (.invokevirtual 113, 3) := by decide +kernel
theorem d_La_law_450 : decode b_La_law 450 = .ok (.aload_n 2, 1) := by decide +kernel
theorem d_La_law_451 : decode b_La_law 451 = .ok (.aload_n 0, 1) := by decide +kernel
theorem d_La_law_452 : decode b_La_law 452 = .ok (.iload 4, 2) := by decide +kernel
theorem d_La_law_454 : decode b_La_law 454 = .ok (.iconst 1, 1) := by decide +kernel
theorem d_La_law_455 : decode b_La_law 455 = .ok (.iadd, 1) := by decide +kernel
theorem d_La_law_456 : decode b_La_law 456 = .ok (.iaload, 1) := by decide +kernel
theorem d_La_law_457 : decode b_La_law 457 = .ok (.aload_n 0, 1) := by decide +kernel
theorem d_La_law_458 : decode b_La_law 458 = .ok (.iload 4, 2) := by decide +kernel
theorem d_La_law_460 : decode b_La_law 460 = .ok (.iconst 2, 1) := by decide +kernel
theorem d_La_law_461 : decode b_La_law 461 = .ok (.iadd, 1) := by decide +kernel
theorem d_La_law_462 : decode b_La_law 462 = .ok (.iaload, 1) := by decide +kernel
theorem d_La_law_463 : decode b_La_law 463 = .ok (.invokevirtual 116, 3) := by decide +kernel
theorem d_La_law_466 : decode b_La_law 466 = .ok (.if_icmp .eq 922, 3) := by decide +kernel
theorem d_La_law_469 : decode b_La_law 469 = .ok (.iconst 0, 1) := by decide +kernel
theorem d_La_law_471 : decode b_La_law 471 = .ok (.aload_n 1, 1) := by decide +kernel
theorem d_La_law_472 : decode b_La_law 472 = .ok (.aload_n 3, 1) := by decide +kernel
theorem d_La_law_473 : decode b_La_law 473 = .ok (.invokestatic 117, 3) := by decide +kernel
theorem d_La_law_476 : decode b_La_law 476 = .ok (.istore 5, 2) := by decide +kernel
theorem d_La_law_478 : decode b_La_law 478 = .ok (.aload_n 2, 1) := by decide +kernel
theorem d_La_law_479 : decode b_La_law 479 = .ok (.invokevirtual 120, 3) := by decide +kernel
theorem d_La_law_482 : decode b_La_law 482 = .ok (.istore 6, 2) := by decide +kernel
theorem d_La_law_484 : decode b_La_law 484 = .ok (.aload_n 2, 1) := by decide +kernel
theorem d_La_law_485 : decode b_La_law 485 = .ok (.invokevirtual 97, 3) := by decide +kernel
theorem d_La_law_488 : decode b_La_law 488 = .ok (.iload 5, 2) := by decide +kernel
theorem d_La_law_490 : decode b_La_law 490 = .ok (.if_icmp .eq 5, 3) := by decide +kernel
theorem d_La_law_493 : decode b_La_law 493 = .ok (.iconst 0, 1) := by decide +kernel
theorem d_La_law_495 : decode b_La_law 495 = .ok (.iload 5, 2) := by decide +kernel
theorem d_La_law_497 : decode b_La_law 497 = .ok (.ifCond .ne 15, 3) := by decide +kernel
theorem d_La_law_500 : decode b_La_law 500 = .ok (.aload_n 3, 1) := by decide +kernel
theorem d_La_law_501 : decode b_La_law 501 = .ok (.iconst 0, 1) := by decide +kernel
theorem d_La_law_502 : decode b_La_law 502 = .ok (.laload, 1) := by decide +kernel
theorem d_La_law_503 : decode b_La_law 503 = .ok (.iload 6, 2) := by decide +kernel
theorem d_La_law_505 : decode b_La_law 505 = .ok (.i2l, 1) := by decide +kernel
theorem d_La_law_506 : decode b_La_law 506 = .ok (.lcmp, 1) := by decide +kernel
theorem d_La_law_507 : decode b_La_law 507 = .ok (.ifCond .eq 5, 3) := by decide +kernel
theorem d_La_law_510 : decode b_La_law 510 = .ok (.iconst 0, 1) := by decide +kernel
theorem d_La_law_512 : decode b_La_law 512 = .ok (.goto 876, 3) := by decide +kernel
theorem d_La_law_515 : decode b_La_law 515 = .ok (.aload_n 1, 1) := by decide +kernel
theorem d_La_law_516 : decode b_La_law 516 = .ok (.aload_n 0, 1) := by decide +kernel
theorem d_La_law_517 : decode b_La_law 517 = .ok (.iload 4, 2) := by decide +kernel
theorem d_La_law_519 : decode b_La_law 519 = .ok (.iconst 1, 1) := by decide +kernel
theorem d_La_law_520 : decode b_La_law 520 = .ok (.iadd, 1) := by decide +kernel
theorem d_La_law_521 : decode b_La_law 521 = .ok (.iaload, 1) := by decide +kernel
theorem d_La_law_522 : decode b_La_law 522 = .ok (.aload_n 0, 1) := by decide +kernel
theorem d_La_law_523 : decode b_La_law 523 = .ok (.iload 4, 2) := by decide +kernel
theorem d_La_law_525 : decode b_La_law 525 = .ok (.iconst 2, 1) := by decide +kernel
theorem d_La_law_526 : decode b_La_law 526 = .ok (.iadd, 1) := by decide +kernel
theorem d_La_law_527 : decode b_La_law 527 = .ok (.iaload, 1) := by decide +kernel
theorem d_La_law_528 : decode b_La_law 528 = .ok (.aload_n 3, 1) := by decide +kernel
theorem d_La_law_529 : decode b_La_law 529 = .ok (.invokestatic 121, 3) := by decide +kernel
theorem d_La_law_532 : decode b_La_law 532 = .ok (.istore 5, 2) := by decide +kernel
theorem d_La_law_534 : decode b_La_law 534 = .ok (.aload_n 2, 1) := by decide +kernel
theorem d_La_law_535 : decode b_La_law 535 = .ok (.aload_n 0, 1) := by decide +kernel
theorem d_La_law_536 : decode b_La_law 536 = .ok (.iload 4, 2) := by decide +kernel
theorem d_La_law_538 : decode b_La_law 538 = .ok (.iconst 1, 1) := by decide +kernel
theorem d_La_law_539 : decode b_La_law 539 = .ok (.iadd, 1) := by decide +kernel
theorem d_La_law_540 : decode b_La_law 540 = .ok (.iaload, 1) := by decide +kernel
theorem d_La_law_541 : decode b_La_law 541 = .ok (.aload_n 0, 1) := by decide +kernel
theorem d_La_law_542 : decode b_La_law 542 = .ok (.iload 4, 2) := by decide +kernel
theorem d_La_law_544 : decode b_La_law 544 = .ok (.iconst 2, 1) := by decide +kernel
theorem d_La_law_545 : decode b_La_law 545 = .ok (.iadd, 1) := by decide +kernel
theorem d_La_law_546 : decode b_La_law 546 = .ok (.iaload, 1) := by decide +kernel
theorem d_La_law_547 : decode b_La_law 547 = .ok (.invokevirtual 124, 3) := by decide +kernel
theorem d_La_law_550 : decode b_La_law 550 = .ok (.istore 6, 2) := by decide +kernel
theorem d_La_law_552 : decode b_La_law 552 = .ok (.aload_n 2, 1) := by decide +kernel
theorem d_La_law_553 : decode b_La_law 553 = .ok (.invokevirtual 97, 3) := by decide +kernel
theorem d_La_law_556 : decode b_La_law 556 = .ok (.iload 5, 2) := by decide +kernel
theorem d_La_law_558 : decode b_La_law 558 = .ok (.if_icmp .eq 5, 3) := by decide +kernel
theorem d_La_law_561 : decode b_La_law 561 = .ok (.iconst 0, 1) := by decide +kernel
theorem d_La_law_563 : decode b_La_law 563 = .ok (.iload 5, 2) := by decide +kernel
theorem d_La_law_565 : decode b_La_law 565 = .ok (.ifCond .ne 15, 3) := by decide +kernel
theorem d_La_law_568 : decode b_La_law 568 = .ok (.aload_n 3, 1) := by decide +kernel
theorem d_La_law_569 : decode b_La_law 569 = .ok (.iconst 0, 1) := by decide +kernel
theorem d_La_law_570 : decode b_La_law 570 = .ok (.laload, 1) := by decide +kernel
theorem d_La_law_571 : decode b_La_law 571 = .ok (.iload 6, 2) := by decide +kernel
theorem d_La_law_573 : decode b_La_law 573 = .ok (.i2l, 1) := by decide +kernel
theorem d_La_law_574 : decode b_La_law 574 = .ok (.lcmp, 1) := by decide +kernel
theorem d_La_law_575 : decode b_La_law 575 = .ok (.ifCond .eq 5, 3) := by decide +kernel
theorem d_La_law_578 : decode b_La_law 578 = .ok (.iconst 0, 1) := by decide +kernel
theorem d_La_law_580 : decode b_La_law 580 = .ok (.goto 808, 3) := by decide +kernel
theorem d_La_law_583 : decode b_La_law 583 = .ok (.aload_n 1, 1) := by decide +kernel
theorem d_La_law_584 : decode b_La_law 584 = .ok (.aload_n 0, 1) := by decide +kernel
theorem d_La_law_585 : decode b_La_law 585 = .ok (.iload 4, 2) := by decide +kernel
theorem d_La_law_587 : decode b_La_law 587 = .ok (.iconst 1, 1) := by decide +kernel
theorem d_La_law_588 : decode b_La_law 588 = .ok (.iadd, 1) := by decide +kernel
theorem d_La_law_589 : decode b_La_law 589 = .ok (.iaload, 1) := by decide +kernel
theorem d_La_law_590 : decode b_La_law 590 = .ok (.aload_n 0, 1) := by decide +kernel
theorem d_La_law_591 : decode b_La_law 591 = .ok (.iload 4, 2) := by decide +kernel
theorem d_La_law_593 : decode b_La_law 593 = .ok (.iconst 2, 1) := by decide +kernel
theorem d_La_law_594 : decode b_La_law 594 = .ok (.iadd, 1) := by decide +kernel
theorem d_La_law_595 : decode b_La_law 595 = .ok (.iaload, 1) := by decide +kernel
theorem d_La_law_596 : decode b_La_law 596 = .ok (.aload_n 3, 1) := by decide +kernel
theorem d_La_law_597 : decode b_La_law 597 = .ok (.invokestatic 125, 3) := by decide +kernel
theorem d_La_law_600 : decode b_La_law 600 = .ok (.istore 5, 2) := by decide +kernel
theorem d_La_law_602 : decode b_La_law 602 = .ok (.aload_n 2, 1) := by decide +kernel
theorem d_La_law_603 : decode b_La_law 603 = .ok (.aload_n 0, 1) := by decide +kernel
theorem d_La_law_604 : decode b_La_law 604 = .ok (.iload 4, 2) := by decide +kernel
theorem d_La_law_606 : decode b_La_law 606 = .ok (.iconst 1, 1) := by decide +kernel
theorem d_La_law_607 : decode b_La_law 607 = .ok (.iadd, 1) := by decide +kernel
theorem d_La_law_608 : decode b_La_law 608 = .ok (.iaload, 1) := by decide +kernel
theorem d_La_law_609 : decode b_La_law 609 = .ok (.aload_n 0, 1) := by decide +kernel
theorem d_La_law_610 : decode b_La_law 610 = .ok (.iload 4, 2) := by decide +kernel
theorem d_La_law_612 : decode b_La_law 612 = .ok (.iconst 2, 1) := by decide +kernel
theorem d_La_law_613 : decode b_La_law 613 = .ok (.iadd, 1) := by decide +kernel
theorem d_La_law_614 : decode b_La_law 614 = .ok (.iaload, 1) := by decide +kernel
theorem d_La_law_615 : decode b_La_law 615 = .ok (.invokevirtual 127, 3) := by decide +kernel
theorem d_La_law_618 : decode b_La_law 618 = .ok (.lstore 6, 2) := by decide +kernel
theorem d_La_law_620 : decode b_La_law 620 = .ok (.aload_n 2, 1) := by decide +kernel
theorem d_La_law_621 : decode b_La_law 621 = .ok (.invokevirtual 97, 3) := by decide +kernel
theorem d_La_law_624 : decode b_La_law 624 = .ok (.iload 5, 2) := by decide +kernel
theorem d_La_law_626 : decode b_La_law 626 = .ok (.if_icmp .eq 5, 3) := by decide +kernel
theorem d_La_law_629 : decode b_La_law 629 = .ok (.iconst 0, 1) := by decide +kernel
theorem d_La_law_631 : decode b_La_law 631 = .ok (.iload 5, 2) := by decide +kernel
theorem d_La_law_633 : decode b_La_law 633 = .ok (.ifCond .ne 14, 3) := by decide +kernel
theorem d_La_law_636 : decode b_La_law 636 = .ok (.aload_n 3, 1) := by decide +kernel
theorem d_La_law_637 : decode b_La_law 637 = .ok (.iconst 0, 1) := by decide +kernel
theorem d_La_law_638 : decode b_La_law 638 = .ok (.laload, 1) := by decide +kernel
theorem d_La_law_639 : decode b_La_law 639 = .ok (.lload 6, 2) := by decide +kernel
theorem d_La_law_641 : decode b_La_law 641 = .ok (.lcmp, 1) := by decide +kernel
theorem d_La_law_642 : decode b_La_law 642 = .ok (.ifCond .eq 5, 3) := by decide +kernel
theorem d_La_law_645 : decode b_La_law 645 = .ok (.iconst 0, 1) := by decide +kernel
theorem d_La_law_647 : decode b_La_law 647 = .ok (.goto 741, 3) := by decide +kernel
theorem d_La_law_650 : decode b_La_law 650 = .ok (.aload_n 1, 1) := by decide +kernel
theorem d_La_law_651 : decode b_La_law 651 = .ok (.aload_n 0, 1) := by decide +kernel
theorem d_La_law_652 : decode b_La_law 652 = .ok (.iload 4, 2) := by decide +kernel
theorem d_La_law_654 : decode b_La_law 654 = .ok (.iconst 1, 1) := by decide +kernel
theorem d_La_law_655 : decode b_La_law 655 = .ok (.iadd, 1) := by decide +kernel
theorem d_La_law_656 : decode b_La_law 656 = .ok (.iaload, 1) := by decide +kernel
theorem d_La_law_657 : decode b_La_law 657 = .ok (.aload_n 0, 1) := by decide +kernel
theorem d_La_law_658 : decode b_La_law 658 = .ok (.iload 4, 2) := by decide +kernel
theorem d_La_law_660 : decode b_La_law 660 = .ok (.iconst 2, 1) := by decide +kernel
theorem d_La_law_661 : decode b_La_law 661 = .ok (.iadd, 1) := by decide +kernel
theorem d_La_law_662 : decode b_La_law 662 = .ok (.iaload, 1) := by decide +kernel
theorem d_La_law_663 : decode b_La_law 663 = .ok (.aload_n 3, 1) := by decide +kernel
theorem d_La_law_664 : decode b_La_law 664 = .ok (.invokestatic 128, 3) := by decide +kernel
theorem d_La_law_667 : decode b_La_law 667 = .ok (.istore 5, 2) := by decide +kernel
theorem d_La_law_669 : decode b_La_law 669 = .ok (.aload_n 2, 1) := by decide +kernel
theorem d_La_law_670 : decode b_La_law 670 = .ok (.aload_n 0, 1) := by decide +kernel
theorem d_La_law_671 : decode b_La_law 671 = .ok (.iload 4, 2) := by decide +kernel
theorem d_La_law_673 : decode b_La_law 673 = .ok (.iconst 1, 1) := by decide +kernel
theorem d_La_law_674 : decode b_La_law 674 = .ok (.iadd, 1) := by decide +kernel
theorem d_La_law_675 : decode b_La_law 675 = .ok (.iaload, 1) := by decide +kernel
theorem d_La_law_676 : decode b_La_law 676 = .ok (.aload_n 0, 1) := by decide +kernel
theorem d_La_law_677 : decode b_La_law 677 = .ok (.iload 4, 2) := by decide +kernel
theorem d_La_law_679 : decode b_La_law 679 = .ok (.iconst 2, 1) := by decide +kernel
theorem d_La_law_680 : decode b_La_law 680 = .ok (.iadd, 1) := by decide +kernel
theorem d_La_law_681 : decode b_La_law 681 = .ok (.iaload, 1) := by decide +kernel
theorem d_La_law_682 : decode b_La_law 682 = .ok (.invokevirtual 130, 3) := by decide +kernel
theorem d_La_law_685 : decode b_La_law 685 = .ok (.istore 6, 2) := by decide +kernel
theorem d_La_law_687 : decode b_La_law 687 = .ok (.aload_n 2, 1) := by decide +kernel
theorem d_La_law_688 : decode b_La_law 688 = .ok (.invokevirtual 97, 3) := by decide +kernel
theorem d_La_law_691 : decode b_La_law 691 = .ok (.iload 5, 2) := by decide +kernel
theorem d_La_law_693 : decode b_La_law 693 = .ok (.if_icmp .eq 5, 3) := by decide +kernel
theorem d_La_law_696 : decode b_La_law 696 = .ok (.iconst 0, 1) := by decide +kernel
theorem d_La_law_698 : decode b_La_law 698 = .ok (.iload 5, 2) := by decide +kernel
theorem d_La_law_700 : decode b_La_law 700 = .ok (.ifCond .ne 15, 3) := by decide +kernel
theorem d_La_law_703 : decode b_La_law 703 = .ok (.aload_n 3, 1) := by decide +kernel
theorem d_La_law_704 : decode b_La_law 704 = .ok (.iconst 0, 1) := by decide +kernel
theorem d_La_law_705 : decode b_La_law 705 = .ok (.laload, 1) := by decide +kernel
theorem d_La_law_706 : decode b_La_law 706 = .ok (.iload 6, 2) := by decide +kernel
theorem d_La_law_708 : decode b_La_law 708 = .ok (.i2l, 1) := by decide +kernel
theorem d_La_law_709 : decode b_La_law 709 = .ok (.lcmp, 1) := by decide +kernel
theorem d_La_law_710 : decode b_La_law 710 = .ok (.ifCond .eq 5, 3) := by decide +kernel
theorem d_La_law_713 : decode b_La_law 713 = .ok (.iconst 0, 1) := by decide +kernel
theorem d_La_law_715 : decode b_La_law 715 = .ok (.goto 673, 3) := by decide +kernel
theorem d_La_law_718 : decode b_La_law 718 = .ok (.aload_n 1, 1) := by decide +kernel
theorem d_La_law_719 : decode b_La_law 719 = .ok (.aload_n 0, 1) := by decide +kernel
theorem d_La_law_720 : decode b_La_law 720 = .ok (.iload 4, 2) := by decide +kernel
theorem d_La_law_722 : decode b_La_law 722 = .ok (.iconst 1, 1) := by decide +kernel
theorem d_La_law_723 : decode b_La_law 723 = .ok (.iadd, 1) := by decide +kernel
theorem d_La_law_724 : decode b_La_law 724 = .ok (.iaload, 1) := by decide +kernel
theorem d_La_law_725 : decode b_La_law 725 = .ok (.aload_n 3, 1) := by decide +kernel
theorem d_La_law_726 : decode b_La_law 726 = .ok (.invokestatic 131, 3) := by decide +kernel
theorem d_La_law_729 : decode b_La_law 729 = .ok (.istore 5, 2) := by decide +kernel
theorem d_La_law_731 : decode b_La_law 731 = .ok (.aload_n 2, 1) := by decide +kernel
theorem d_La_law_732 : decode b_La_law 732 = .ok (.aload_n 0, 1) := by decide +kernel
theorem d_La_law_733 : decode b_La_law 733 = .ok (.iload 4, 2) := by decide +kernel
theorem d_La_law_735 : decode b_La_law 735 = .ok (.iconst 1, 1) := by decide +kernel
theorem d_La_law_736 : decode b_La_law 736 = .ok (.iadd, 1) := by decide +kernel
theorem d_La_law_737 : decode b_La_law 737 = .ok (.iaload, 1) := by decide +kernel
theorem d_La_law_738 : decode b_La_law 738 = .ok (.invokevirtual 134, 3) := by decide +kernel
theorem d_La_law_741 : decode b_La_law 741 = .ok (.istore 6, 2) := by decide +kernel
theorem d_La_law_743 : decode b_La_law 743 = .ok (.aload_n 2, 1) := by decide +kernel
theorem d_La_law_744 : decode b_La_law 744 = .ok (.invokevirtual 97, 3) := by decide +kernel
theorem d_La_law_747 : decode b_La_law 747 = .ok (.iload 5, 2) := by decide +kernel
theorem d_La_law_749 : decode b_La_law 749 = .ok (.if_icmp .eq 5, 3) := by decide +kernel
theorem d_La_law_752 : decode b_La_law 752 = .ok (.iconst 0, 1) := by decide +kernel
theorem d_La_law_754 : decode b_La_law 754 = .ok (.iload 5, 2) := by decide +kernel
theorem d_La_law_756 : decode b_La_law 756 = .ok (.ifCond .ne 15, 3) := by decide +kernel
theorem d_La_law_759 : decode b_La_law 759 = .ok (.aload_n 3, 1) := by decide +kernel
theorem d_La_law_760 : decode b_La_law 760 = .ok (.iconst 0, 1) := by decide +kernel
theorem d_La_law_761 : decode b_La_law 761 = .ok (.laload, 1) := by decide +kernel
theorem d_La_law_762 : decode b_La_law 762 = .ok (.iload 6, 2) := by decide +kernel
theorem d_La_law_764 : decode b_La_law 764 = .ok (.i2l, 1) := by decide +kernel
theorem d_La_law_765 : decode b_La_law 765 = .ok (.lcmp, 1) := by decide +kernel
theorem d_La_law_766 : decode b_La_law 766 = .ok (.ifCond .eq 5, 3) := by decide +kernel
theorem d_La_law_769 : decode b_La_law 769 = .ok (.iconst 0, 1) := by decide +kernel
theorem d_La_law_771 : decode b_La_law 771 = .ok (.goto 617, 3) := by decide +kernel
theorem d_La_law_774 : decode b_La_law 774 = .ok (.aload_n 1, 1) := by decide +kernel
theorem d_La_law_775 : decode b_La_law 775 = .ok (.aload_n 3, 1) := by decide +kernel
theorem d_La_law_776 : decode b_La_law 776 = .ok (.invokestatic 135, 3) := by decide +kernel
theorem d_La_law_779 : decode b_La_law 779 = .ok (.istore 5, 2) := by decide +kernel
theorem d_La_law_781 : decode b_La_law 781 = .ok (.aload_n 2, 1) := by decide +kernel
theorem d_La_law_782 : decode b_La_law 782 = .ok (.invokevirtual 137, 3) := by decide +kernel
theorem d_La_law_785 : decode b_La_law 785 = .ok (.istore 6, 2) := by decide +kernel
theorem d_La_law_787 : decode b_La_law 787 = .ok (.aload_n 2, 1) := by decide +kernel
theorem d_La_law_788 : decode b_La_law 788 = .ok (.invokevirtual 97, 3) := by decide +kernel
theorem d_La_law_791 : decode b_La_law 791 = .ok (.iload 5, 2) := by decide +kernel
theorem d_La_law_793 : decode b_La_law 793 = .ok (.if_icmp .eq 5, 3) := by decide +kernel
theorem d_La_law_796 : decode b_La_law 796 = .ok (.iconst 0, 1) := by decide +kernel
theorem d_La_law_798 : decode b_La_law 798 = .ok (.iload 5, 2) := by decide +kernel
theorem d_La_law_800 : decode b_La_law 800 = .ok (.ifCond .ne 22, 3) := by decide +kernel
theorem d_La_law_803 : decode b_La_law 803 = .ok (.aload_n 3, 1) := by decide +kernel
theorem d_La_law_804 : decode b_La_law 804 = .ok (.iconst 0, 1) := by decide +kernel
theorem d_La_law_805 : decode b_La_law 805 = .ok (.laload, 1) := by decide +kernel
theorem d_La_law_806 : decode b_La_law 806 = .ok (.iload 6, 2) := by decide +kernel
theorem d_La_law_808 : decode b_La_law 808 = .ok (.ifCond .eq 7, 3) := by decide +kernel
theorem d_La_law_811 : decode b_La_law 811 = .ok (.lconst 1, 1) := by decide +kernel
theorem d_La_law_812 : decode b_La_law 812 = .ok (.goto 4, 3) := by decide +kernel
theorem d_La_law_815 : decode b_La_law 815 = .ok (.lconst 0, 1) := by decide +kernel
theorem d_La_law_816 : decode b_La_law 816 = .ok (.lcmp, 1) := by decide +kernel
theorem d_La_law_817 : decode b_La_law 817 = .ok (.ifCond .eq 5, 3) := by decide +kernel
theorem d_La_law_820 : decode b_La_law 820 = .ok (.iconst 0, 1) := by decide +kernel
theorem d_La_law_822 : decode b_La_law 822 = .ok (.goto 566, 3) := by decide +kernel
theorem d_La_law_825 : decode b_La_law 825 = .ok (.aload_n 1, 1) := by decide +kernel
theorem d_La_law_826 : decode b_La_law 826 = .ok (.aload_n 0, 1) := by decide +kernel
theorem d_La_law_827 : decode b_La_law 827 = .ok (.iload 4, 2) := by decide +kernel
theorem d_La_law_829 : decode b_La_law 829 = .ok (.iconst 1, 1) := by decide +kernel
theorem d_La_law_830 : decode b_La_law 830 = .ok (.iadd, 1) := by decide +kernel
theorem d_La_law_831 : decode b_La_law 831 = .ok (.iaload, 1) := by decide +kernel
theorem d_La_law_832 : decode b_La_law 832 = .ok (.ifCond .eq 7, 3) := by decide +kernel
theorem d_La_law_835 : decode b_La_law 835 = .ok (.iconst 1, 1) := by decide +kernel
theorem d_La_law_836 : decode b_La_law 836 = .ok (.goto 4, 3) := by decide +kernel
theorem d_La_law_839 : decode b_La_law 839 = .ok (.iconst 0, 1) := by decide +kernel
theorem d_La_law_840 : decode b_La_law 840 = .ok (.aload_n 3, 1) := by decide +kernel
theorem d_La_law_841 : decode b_La_law 841 = .ok (.invokestatic 138, 3) := by decide +kernel
theorem d_La_law_844 : decode b_La_law 844 = .ok (.istore 5, 2) := by decide +kernel
theorem d_La_law_846 : decode b_La_law 846 = .ok (.aload_n 2, 1) := by decide +kernel
theorem d_La_law_847 : decode b_La_law 847 = .ok (.aload_n 0, 1) := by decide +kernel
theorem d_La_law_848 : decode b_La_law 848 = .ok (.iload 4, 2) := by decide +kernel
theorem d_La_law_850 : decode b_La_law 850 = .ok (.iconst 1, 1) := by decide +kernel
theorem d_La_law_851 : decode b_La_law 851 = .ok (.iadd, 1) := by decide +kernel
theorem d_La_law_852 : decode b_La_law 852 = .ok (.iaload, 1) := by decide +kernel
theorem d_La_law_853 : decode b_La_law 853 = .ok (.ifCond .eq 7, 3) := by decide +kernel
theorem d_La_law_856 : decode b_La_law 856 = .ok (.iconst 1, 1) := by decide +kernel
theorem d_La_law_857 : decode b_La_law 857 = .ok (.goto 4, 3) := by decide +kernel
theorem d_La_law_860 : decode b_La_law 860 = .ok (.iconst 0, 1) := by decide +kernel
theorem d_La_law_861 : decode b_La_law 861 = .ok (.invokevirtual 141, 3) := by decide +kernel
theorem d_La_law_864 : decode b_La_law 864 = .ok (.istore 6, 2) := by decide +kernel
theorem d_La_law_866 : decode b_La_law 866 = .ok (.aload_n 2, 1) := by decide +kernel
theorem d_La_law_867 : decode b_La_law 867 = .ok (.invokevirtual 97, 3) := by decide +kernel
theorem d_La_law_870 : decode b_La_law 870 = .ok (.iload 5, 2) := by decide +kernel
theorem d_La_law_872 : decode b_La_law 872 = .ok (.if_icmp .eq 5, 3) := by decide +kernel
theorem d_La_law_875 : decode b_La_law 875 = .ok (.iconst 0, 1) := by decide +kernel
theorem d_La_law_877 : decode b_La_law 877 = .ok (.iload 5, 2) := by decide +kernel
theorem d_La_law_879 : decode b_La_law 879 = .ok (.ifCond .ne 15, 3) := by decide +kernel
theorem d_La_law_882 : decode b_La_law 882 = .ok (.aload_n 3, 1) := by decide +kernel
theorem d_La_law_883 : decode b_La_law 883 = .ok (.iconst 0, 1) := by decide +kernel
theorem d_La_law_884 : decode b_La_law 884 = .ok (.laload, 1) := by decide +kernel
theorem d_La_law_885 : decode b_La_law 885 = .ok (.iload 6, 2) := by decide +kernel
theorem d_La_law_887 : decode b_La_law 887 = .ok (.i2l, 1) := by decide +kernel
theorem d_La_law_888 : decode b_La_law 888 = .ok (.lcmp, 1) := by decide +kernel
theorem d_La_law_889 : decode b_La_law 889 = .ok (.ifCond .eq 5, 3) := by decide +kernel
theorem d_La_law_892 : decode b_La_law 892 = .ok (.iconst 0, 1) := by decide +kernel
theorem d_La_law_894 : decode b_La_law 894 = .ok (.goto 494, 3) := by decide +kernel
theorem d_La_law_897 : decode b_La_law 897 = .ok (.aload_n 1, 1) := by decide +kernel
theorem d_La_law_898 : decode b_La_law 898 = .ok (.aload_n 0, 1) := by decide +kernel
theorem d_La_law_899 : decode b_La_law 899 = .ok (.iload 4, 2) := by decide +kernel
theorem d_La_law_901 : decode b_La_law 901 = .ok (.iconst 1, 1) := by decide +kernel
theorem d_La_law_902 : decode b_La_law 902 = .ok (.iadd, 1) := by decide +kernel
theorem d_La_law_903 : decode b_La_law 903 = .ok (.iaload, 1) := by decide +kernel
theorem d_La_law_904 : decode b_La_law 904 = .ok (.aload_n 3, 1) := by decide +kernel
theorem d_La_law_905 : decode b_La_law 905 = .ok (.invokestatic 142, 3) := by decide +kernel
theorem d_La_law_908 : decode b_La_law 908 = .ok (.istore 5, 2) := by decide +kernel
theorem d_La_law_910 : decode b_La_law 910 = .ok (.aload_n 2, 1) := by decide +kernel
theorem d_La_law_911 : decode b_La_law 911 = .ok (.aload_n 0, 1) := by decide +kernel
theorem d_La_law_912 : decode b_La_law 912 = .ok (.iload 4, 2) := by decide +kernel
theorem d_La_law_914 : decode b_La_law 914 = .ok (.iconst 1, 1) := by decide +kernel
theorem d_La_law_915 : decode b_La_law 915 = .ok (.iadd, 1) := by decide +kernel
theorem d_La_law_916 : decode b_La_law 916 = .ok (.iaload, 1) := by decide +kernel
theorem d_La_law_917 : decode b_La_law 917 = .ok (.invokevirtual 144, 3) := by decide +kernel
theorem d_La_law_920 : decode b_La_law 920 = .ok (.istore 6, 2) := by decide +kernel
theorem d_La_law_922 : decode b_La_law 922 = .ok (.aload_n 2, 1) := by decide +kernel
theorem d_La_law_923 : decode b_La_law 923 = .ok (.invokevirtual 97, 3) := by decide +kernel
theorem d_La_law_926 : decode b_La_law 926 = .ok (.iload 5, 2) := by decide +kernel
theorem d_La_law_928 : decode b_La_law 928 = .ok (.if_icmp .eq 5, 3) := by decide +kernel
theorem d_La_law_931 : decode b_La_law 931 = .ok (.iconst 0, 1) := by decide +kernel
theorem d_La_law_933 : decode b_La_law 933 = .ok (.iload 5, 2) := by decide +kernel
theorem d_La_law_935 : decode b_La_law 935 = .ok (.ifCond .ne 15, 3) := by decide +kernel
theorem d_La_law_938 : decode b_La_law 938 = .ok (.aload_n 3, 1) := by decide +kernel
theorem d_La_law_939 : decode b_La_law 939 = .ok (.iconst 0, 1) := by decide +kernel
theorem d_La_law_940 : decode b_La_law 940 = .ok (.laload, 1) := by decide +kernel
theorem d_La_law_941 : decode b_La_law 941 = .ok (.iload 6, 2) := by decide +kernel
theorem d_La_law_943 : decode b_La_law 943 = .ok (.i2l, 1) := by decide +kernel
theorem d_La_law_944 : decode b_La_law 944 = .ok (.lcmp, 1) := by decide +kernel
theorem d_La_law_945 : decode b_La_law 945 = .ok (.ifCond .eq 5, 3) := by decide +kernel
theorem d_La_law_948 : decode b_La_law 948 = .ok (.iconst 0, 1) := by decide +kernel
theorem d_La_law_950 : decode b_La_law 950 = .ok (.goto 438, 3) := by decide +kernel
theorem d_La_law_953 : decode b_La_law 953 = .ok (.aload_n 1, 1) := by decide +kernel
theorem d_La_law_954 : decode b_La_law 954 = .ok (.aload_n 0, 1) := by decide +kernel
theorem d_La_law_955 : decode b_La_law 955 = .ok (.iload 4, 2) := by decide +kernel
theorem d_La_law_957 : decode b_La_law 957 = .ok (.iconst 1, 1) := by decide +kernel
theorem d_La_law_958 : decode b_La_law 958 = .ok (.iadd, 1) := by decide +kernel
theorem d_La_law_959 : decode b_La_law 959 = .ok (.iaload, 1) := by decide +kernel
theorem d_La_law_960 : decode b_La_law 960 = .ok (.aload_n 0, 1) := by decide +kernel
theorem d_La_law_961 : decode b_La_law 961 = .ok (.iload 4, 2) := by decide +kernel
theorem d_La_law_963 : decode b_La_law 963 = .ok (.iconst 2, 1) := by decide +kernel
theorem d_La_law_964 : decode b_La_law 964 = .ok (.iadd, 1) := by decide +kernel
theorem d_La_law_965 : decode b_La_law 965 = .ok (.iaload, 1) := by decide +kernel
theorem d_La_law_966 : decode b_La_law 966 = .ok (.aload_n 0, 1) := by decide +kernel
theorem d_La_law_967 : decode b_La_law 967 = .ok (.iload 4, 2) := by decide +kernel
theorem d_La_law_969 : decode b_La_law 969 = .ok (.iconst 3, 1) := by decide +kernel
theorem d_La_law_970 : decode b_La_law 970 = .ok (.iadd, 1) := by decide +kernel
theorem d_La_law_971 : decode b_La_law 971 = .ok (.iaload, 1) := by decide +kernel
theorem d_La_law_972 : decode b_La_law 972 = .ok (.aload_n 3, 1) := by decide +kernel
theorem d_La_law_973 : decode b_La_law 973 = .ok (.invokestatic 145, 3) := by decide +kernel
theorem d_La_law_976 : decode b_La_law 976 = .ok (.istore 5, 2) := by decide +kernel
theorem d_La_law_978 : decode b_La_law 978 = .ok (.aload_n 2, 1) := by decide +kernel
theorem d_La_law_979 : decode b_La_law 979 = .ok (.aload_n 0, 1) := by decide +kernel
theorem d_La_law_980 : decode b_La_law 980 = .ok (.iload 4, 2) := by decide +kernel
theorem d_La_law_982 : decode b_La_law 982 = .ok (.iconst 1, 1) := by decide +kernel
theorem d_La_law_983 : decode b_La_law 983 = .ok (.iadd, 1) := by decide +kernel
theorem d_La_law_984 : decode b_La_law 984 = .ok (.iaload, 1) := by decide +kernel
theorem d_La_law_985 : decode b_La_law 985 = .ok (.aload_n 0, 1) := by decide +kernel
theorem d_La_law_986 : decode b_La_law 986 = .ok (.iload 4, 2) := by decide +kernel
theorem d_La_law_988 : decode b_La_law 988 = .ok (.iconst 2, 1) := by decide +kernel
theorem d_La_law_989 : decode b_La_law 989 = .ok (.iadd, 1) := by decide +kernel
theorem d_La_law_990 : decode b_La_law 990 = .ok (.iaload, 1) := by decide +kernel
theorem d_La_law_991 : decode b_La_law 991 = .ok (.aload_n 0, 1) := by decide +kernel
theorem d_La_law_992 : decode b_La_law 992 = .ok (.iload 4, 2) := by decide +kernel
theorem d_La_law_994 : decode b_La_law 994 = .ok (.iconst 3, 1) := by decide +kernel
theorem d_La_law_995 : decode b_La_law 995 = .ok (.iadd, 1) := by decide +kernel
theorem d_La_law_996 : decode b_La_law 996 = .ok (.iaload, 1) := by decide +kernel
theorem d_La_law_997 : decode b_La_law 997 = .ok (.invokevirtual 148, 3) := by decide +kernel
theorem d_La_law_1000 : decode b_La_law 1000 = .ok (.istore 6, 2) := by decide +kernel
theorem d_La_law_1002 : decode b_La_law 1002 = .ok (.aload_n 2, 1) := by decide +kernel
theorem d_La_law_1003 : decode b_La_law 1003 = .ok (.invokevirtual 97, 3) := by decide +kernel
theorem d_La_law_1006 : decode b_La_law 1006 = .ok (.iload 5, 2) := by decide +kernel
theorem d_La_law_1008 : decode b_La_law 1008 = .ok (.if_icmp .eq 5, 3) := by decide +kernel
theorem d_La_law_1011 : decode b_La_law 1011 = .ok (.iconst 0, 1) := by decide +kernel
theorem d_La_law_1013 : decode b_La_law 1013 = .ok (.iload 5, 2) := by decide +kernel
theorem d_La_law_1015 : decode b_La_law 1015 = .ok (.ifCond .ne 15, 3) := by decide +kernel
theorem d_La_law_1018 : decode b_La_law 1018 = .ok (.aload_n 3, 1) := by decide +kernel
theorem d_La_law_1019 : decode b_La_law 1019 = .ok (.iconst 0, 1) := by decide +kernel
theorem d_La_law_1020 : decode b_La_law 1020 = .ok (.laload, 1) := by decide +kernel
theorem d_La_law_1021 : decode b_La_law 1021 = .ok (.iload 6, 2) := by decide +kernel
theorem d_La_law_1023 : decode b_La_law 1023 = .ok (.i2l, 1) := by decide +kernel
theorem d_La_law_1024 : decode b_La_law 1024 = .ok (.lcmp, 1) := by decide +kernel
theorem d_La_law_1025 : decode b_La_law 1025 = .ok (.ifCond .eq 5, 3) := by decide +kernel
theorem d_La_law_1028 : decode b_La_law 1028 = .ok (.iconst 0, 1) := by decide +kernel
theorem d_La_law_1030 : decode b_La_law 1030 = .ok (.goto 358, 3) := by decide +kernel
theorem d_La_law_1033 : decode b_La_law 1033 = .ok (.aload_n 1, 1) := by decide +kernel
theorem d_La_law_1034 : decode b_La_law 1034 = .ok (.aload_n 0, 1) := by decide +kernel
theorem d_La_law_1035 : decode b_La_law 1035 = .ok (.iload 4, 2) := by decide +kernel
theorem d_La_law_1037 : decode b_La_law 1037 = .ok (.iconst 1, 1) := by decide +kernel
theorem d_La_law_1038 : decode b_La_law 1038 = .ok (.iadd, 1) := by decide +kernel
theorem d_La_law_1039 : decode b_La_law 1039 = .ok (.iaload, 1) := by decide +kernel
theorem d_La_law_1040 : decode b_La_law 1040 = .ok (.aload_n 0, 1) := by decide +kernel
theorem d_La_law_1041 : decode b_La_law 1041 = .ok (.iload 4, 2) := by decide +kernel
theorem d_La_law_1043 : decode b_La_law 1043 = .ok (.iconst 2, 1) := by decide +kernel
theorem d_La_law_1044 : decode b_La_law 1044 = .ok (.iadd, 1) := by decide +kernel
theorem d_La_law_1045 : decode b_La_law 1045 = .ok (.iaload, 1) := by decide +kernel
theorem d_La_law_1046 : decode b_La_law 1046 = .ok (.aload_n 3, 1) := by decide +kernel
theorem d_La_law_1047 : decode b_La_law 1047 = .ok (.invokestatic 149, 3) := by decide +kernel
theorem d_La_law_1050 : decode b_La_law 1050 = .ok (.istore 5, 2) := by decide +kernel
theorem d_La_law_1052 : decode b_La_law 1052 = .ok (.aload_n 2, 1) := by decide +kernel
theorem d_La_law_1053 : decode b_La_law 1053 = .ok (.aload_n 0, 1) := by decide +kernel
theorem d_La_law_1054 : decode b_La_law 1054 = .ok (.iload 4, 2) := by decide +kernel
theorem d_La_law_1056 : decode b_La_law 1056 = .ok (.iconst 1, 1) := by decide +kernel
theorem d_La_law_1057 : decode b_La_law 1057 = .ok (.iadd, 1) := by decide +kernel
theorem d_La_law_1058 : decode b_La_law 1058 = .ok (.iaload, 1) := by decide +kernel
theorem d_La_law_1059 : decode b_La_law 1059 = .ok (.aload_n 0, 1) := by decide +kernel
theorem d_La_law_1060 : decode b_La_law 1060 = .ok (.iload 4, 2) := by decide +kernel
theorem d_La_law_1062 : decode b_La_law 1062 = .ok (.iconst 2, 1) := by decide +kernel
theorem d_La_law_1063 : decode b_La_law 1063 = .ok (.iadd, 1) := by decide +kernel
theorem d_La_law_1064 : decode b_La_law 1064 = .ok (.iaload, 1) := by decide +kernel
theorem d_La_law_1065 : decode b_La_law 1065 = .ok (.invokevirtual 151, 3) := by decide +kernel
theorem d_La_law_1068 : decode b_La_law 1068 = .ok (.istore 6, 2) := by decide +kernel
theorem d_La_law_1070 : decode b_La_law 1070 = .ok (.aload_n 2, 1) := by decide +kernel
theorem d_La_law_1071 : decode b_La_law 1071 = .ok (.invokevirtual 97, 3) := by decide +kernel
theorem d_La_law_1074 : decode b_La_law 1074 = .ok (.iload 5, 2) := by decide +kernel
theorem d_La_law_1076 : decode b_La_law 1076 = .ok (.if_icmp .eq 5, 3) := by decide +kernel
theorem d_La_law_1079 : decode b_La_law 1079 = .ok (.iconst 0, 1) := by decide +kernel
theorem d_La_law_1081 : decode b_La_law 1081 = .ok (.iload 5, 2) := by decide +kernel
theorem d_La_law_1083 : decode b_La_law 1083 = .ok (.ifCond .ne 15, 3) := by decide +kernel
theorem d_La_law_1086 : decode b_La_law 1086 = .ok (.aload_n 3, 1) := by decide +kernel
theorem d_La_law_1087 : decode b_La_law 1087 = .ok (.iconst 0, 1) := by decide +kernel
theorem d_La_law_1088 : decode b_La_law 1088 = .ok (.laload, 1) := by decide +kernel
theorem d_La_law_1089 : decode b_La_law 1089 = .ok (.iload 6, 2) := by decide +kernel
theorem d_La_law_1091 : decode b_La_law 1091 = .ok (.i2l, 1) := by decide +kernel
theorem d_La_law_1092 : decode b_La_law 1092 = .ok (.lcmp, 1) := by decide +kernel
theorem d_La_law_1093 : decode b_La_law 1093 = .ok (.ifCond .eq 5, 3) := by decide +kernel
theorem d_La_law_1096 : decode b_La_law 1096 = .ok (.iconst 0, 1) := by decide +kernel
theorem d_La_law_1098 : decode b_La_law 1098 = .ok (.goto 290, 3) := by decide +kernel
theorem d_La_law_1101 : decode b_La_law 1101 = .ok (.aload_n 1, 1) := by decide +kernel
theorem d_La_law_1102 : decode b_La_law 1102 = .ok (.aload_n 0, 1) := by decide +kernel
theorem d_La_law_1103 : decode b_La_law 1103 = .ok (.iload 4, 2) := by decide +kernel
theorem d_La_law_1105 : decode b_La_law 1105 = .ok (.iconst 1, 1) := by decide +kernel
theorem d_La_law_1106 : decode b_La_law 1106 = .ok (.iadd, 1) := by decide +kernel
theorem d_La_law_1107 : decode b_La_law 1107 = .ok (.iaload, 1) := by decide +kernel
theorem d_La_law_1108 : decode b_La_law 1108 = .ok (.invokestatic 152, 3) := by decide +kernel
theorem d_La_law_1111 : decode b_La_law 1111 = .ok (.istore 5, 2) := by decide +kernel
theorem d_La_law_1113 : decode b_La_law 1113 = .ok (.aload_n 2, 1) := by decide +kernel
theorem d_La_law_1114 : decode b_La_law 1114 = .ok (.aload_n 0, 1) := by decide +kernel
theorem d_La_law_1115 : decode b_La_law 1115 = .ok (.iload 4, 2) := by decide +kernel
theorem d_La_law_1117 : decode b_La_law 1117 = .ok (.iconst 1, 1) := by decide +kernel
theorem d_La_law_1118 : decode b_La_law 1118 = .ok (.iadd, 1) := by decide +kernel
theorem d_La_law_1119 : decode b_La_law 1119 = .ok (.iaload, 1) := by decide +kernel
theorem d_La_law_1120 : decode b_La_law 1120 = .ok (.invokevirtual 155, 3) := by decide +kernel
theorem d_La_law_1123 : decode b_La_law 1123 = .ok (.aload_n 2, 1) := by decide +kernel
theorem d_La_law_1124 : decode b_La_law 1124 = .ok (.invokevirtual 97, 3) := by decide +kernel
theorem d_La_law_1127 : decode b_La_law 1127 = .ok (.iload 5, 2) := by decide +kernel
theorem d_La_law_1129 : decode b_La_law 1129 = .ok (.if_icmp .eq 5, 3) := by decide +kernel
theorem d_La_law_1132 : decode b_La_law 1132 = .ok (.iconst 0, 1) := by decide +kernel
theorem d_La_law_1134 : decode b_La_law 1134 = .ok (.goto 254, 3) := by decide +kernel
theorem d_La_law_1137 : decode b_La_law 1137 = .ok (.aload_n 1, 1) := by decide +kernel
theorem d_La_law_1138 : decode b_La_law 1138 = .ok (.aload_n 0, 1) := by decide +kernel
theorem d_La_law_1139 : decode b_La_law 1139 = .ok (.iload 4, 2) := by decide +kernel
theorem d_La_law_1141 : decode b_La_law 1141 = .ok (.iconst 1, 1) := by decide +kernel
theorem d_La_law_1142 : decode b_La_law 1142 = .ok (.iadd, 1) := by decide +kernel
theorem d_La_law_1143 : decode b_La_law 1143 = .ok (.iaload, 1) := by decide +kernel
theorem d_La_law_1144 : decode b_La_law 1144 = .ok (.aload_n 0, 1) := by decide +kernel
theorem d_La_law_1145 : decode b_La_law 1145 = .ok (.iload 4, 2) := by decide +kernel
theorem d_La_law_1147 : decode b_La_law 1147 = .ok (.iconst 2, 1) := by decide +kernel
theorem d_La_law_1148 : decode b_La_law 1148 = .ok (.iadd, 1) := by decide +kernel
theorem d_La_law_1149 : decode b_La_law 1149 = .ok (.iaload, 1) := by decide +kernel
theorem d_La_law_1150 : decode b_La_law 1150 = .ok (.aload_n 0, 1) := by decide +kernel
theorem d_La_law_1151 : decode b_La_law 1151 = .ok (.iload 4, 2) := by decide +kernel
theorem d_La_law_1153 : decode b_La_law 1153 = .ok (.iconst 3, 1) := by decide +kernel
theorem d_La_law_1154 : decode b_La_law 1154 = .ok (.iadd, 1) := by decide +kernel
theorem d_La_law_1155 : decode b_La_law 1155 = .ok (.iaload, 1) := by decide +kernel
theorem d_La_law_1156 : decode b_La_law 1156 = .ok (.aload_n 0, 1) := by decide +kernel
theorem d_La_law_1157 : decode b_La_law 1157 = .ok (.iload 4, 2) := by decide +kernel
theorem d_La_law_1159 : decode b_La_law 1159 = .ok (.iconst 4, 1) := by decide +kernel
theorem d_La_law_1160 : decode b_La_law 1160 = .ok (.iadd, 1) := by decide +kernel
theorem d_La_law_1161 : decode b_La_law 1161 = .ok (.iaload, 1) := by decide +kernel
theorem d_La_law_1162 : decode b_La_law 1162 = .ok (.invokestatic 156, 3) := by decide +kernel
theorem d_La_law_1165 : decode b_La_law 1165 = .ok (.istore 5, 2) := by decide +kernel
theorem d_La_law_1167 : decode b_La_law 1167 = .ok (.aload_n 2, 1) := by decide +kernel
theorem d_La_law_1168 : decode b_La_law 1168 = .ok (.aload_n 0, 1) := by decide +kernel
theorem d_La_law_1169 : decode b_La_law 1169 = .ok (.iload 4, 2) := by decide +kernel
theorem d_La_law_1171 : decode b_La_law 1171 = .ok (.iconst 1, 1) := by decide +kernel
theorem d_La_law_1172 : decode b_La_law 1172 = .ok (.iadd, 1) := by decide +kernel
theorem d_La_law_1173 : decode b_La_law 1173 = .ok (.iaload, 1) := by decide +kernel
theorem d_La_law_1174 : decode b_La_law 1174 = .ok (.aload_n 0, 1) := by decide +kernel
theorem d_La_law_1175 : decode b_La_law 1175 = .ok (.iload 4, 2) := by decide +kernel
theorem d_La_law_1177 : decode b_La_law 1177 = .ok (.iconst 2, 1) := by decide +kernel
theorem d_La_law_1178 : decode b_La_law 1178 = .ok (.iadd, 1) := by decide +kernel
theorem d_La_law_1179 : decode b_La_law 1179 = .ok (.iaload, 1) := by decide +kernel
theorem d_La_law_1180 : decode b_La_law 1180 = .ok (.aload_n 0, 1) := by decide +kernel
theorem d_La_law_1181 : decode b_La_law 1181 = .ok (.iload 4, 2) := by decide +kernel
theorem d_La_law_1183 : decode b_La_law 1183 = .ok (.iconst 3, 1) := by decide +kernel
theorem d_La_law_1184 : decode b_La_law 1184 = .ok (.iadd, 1) := by decide +kernel
theorem d_La_law_1185 : decode b_La_law 1185 = .ok (.iaload, 1) := by decide +kernel
theorem d_La_law_1186 : decode b_La_law 1186 = .ok (.aload_n 0, 1) := by decide +kernel
theorem d_La_law_1187 : decode b_La_law 1187 = .ok (.iload 4, 2) := by decide +kernel
theorem d_La_law_1189 : decode b_La_law 1189 = .ok (.iconst 4, 1) := by decide +kernel
theorem d_La_law_1190 : decode b_La_law 1190 = .ok (.iadd, 1) := by decide +kernel
theorem d_La_law_1191 : decode b_La_law 1191 = .ok (.iaload, 1) := by decide +kernel
theorem d_La_law_1192 : decode b_La_law 1192 = .ok (.invokevirtual 159, 3) := by decide +kernel
theorem d_La_law_1195 : decode b_La_law 1195 = .ok (.aload_n 2, 1) := by decide +kernel
theorem d_La_law_1196 : decode b_La_law 1196 = .ok (.invokevirtual 97, 3) := by decide +kernel
theorem d_La_law_1199 : decode b_La_law 1199 = .ok (.iload 5, 2) := by decide +kernel
theorem d_La_law_1201 : decode b_La_law 1201 = .ok (.if_icmp .eq 5, 3) := by decide +kernel
theorem d_La_law_1204 : decode b_La_law 1204 = .ok (.iconst 0, 1) := by decide +kernel
theorem d_La_law_1206 : decode b_La_law 1206 = .ok (.goto 182, 3) := by decide +kernel
theorem d_La_law_1209 : decode b_La_law 1209 = .ok (.aload_n 1, 1) := by decide +kernel
theorem d_La_law_1210 : decode b_La_law 1210 = .ok (.aload_n 0, 1) := by decide +kernel
theorem d_La_law_1211 : decode b_La_law 1211 = .ok (.iload 4, 2) := by decide +kernel
theorem d_La_law_1213 : decode b_La_law 1213 = .ok (.iconst 1, 1) := by decide +kernel
theorem d_La_law_1214 : decode b_La_law 1214 = .ok (.iadd, 1) := by decide +kernel
theorem d_La_law_1215 : decode b_La_law 1215 = .ok (.iaload, 1) := by decide +kernel
theorem d_La_law_1216 : decode b_La_law 1216 = .ok (.aload_n 0, 1) := by decide +kernel
theorem d_La_law_1217 : decode b_La_law 1217 = .ok (.iload 4, 2) := by decide +kernel
theorem d_La_law_1219 : decode b_La_law 1219 = .ok (.iconst 2, 1) := by decide +kernel
theorem d_La_law_1220 : decode b_La_law 1220 = .ok (.iadd, 1) := by decide +kernel
theorem d_La_law_1221 : decode b_La_law 1221 = .ok (.iaload, 1) := by decide +kernel
theorem d_La_law_1222 : decode b_La_law 1222 = .ok (.invokevirtual 160, 3) := by decide +kernel
theorem d_La_law_1225 : decode b_La_law 1225 = .ok (.aload_n 2, 1) := by decide +kernel
theorem d_La_law_1226 : decode b_La_law 1226 = .ok (.aload_n 0, 1) := by decide +kernel
theorem d_La_law_1227 : decode b_La_law 1227 = .ok (.iload 4, 2) := by decide +kernel
theorem d_La_law_1229 : decode b_La_law 1229 = .ok (.iconst 1, 1) := by decide +kernel
theorem d_La_law_1230 : decode b_La_law 1230 = .ok (.iadd, 1) := by decide +kernel
theorem d_La_law_1231 : decode b_La_law 1231 = .ok (.iaload, 1) := by decide +kernel
theorem d_La_law_1232 : decode b_La_law 1232 = .ok (.aload_n 0, 1) := by decide +kernel
theorem d_La_law_1233 : decode b_La_law 1233 = .ok (.iload 4, 2) := by decide +kernel
theorem d_La_law_1235 : decode b_La_law 1235 = .ok (.iconst 2, 1) := by decide +kernel
theorem d_La_law_1236 : decode b_La_law 1236 = .ok (.iadd, 1) := by decide +kernel
theorem d_La_law_1237 : decode b_La_law 1237 = .ok (.iaload, 1) := by decide +kernel
theorem d_La_law_1238 : decode b_La_law 1238 = .ok (.invokevirtual 163, 3) := by decide +kernel
theorem d_La_law_1241 : decode b_La_law 1241 = .ok (.if_icmp .eq 147, 3) := by decide +kernel
theorem d_La_law_1244 : decode b_La_law 1244 = .ok (.iconst 0, 1) := by decide +kernel
theorem d_La_law_1246 : decode b_La_law 1246 = .ok (.aload_n 1, 1) := by decide +kernel
theorem d_La_law_1247 : decode b_La_law 1247 = .ok (.aload_n 0, 1) := by decide +kernel
theorem d_La_law_1248 : decode b_La_law 1248 = .ok (.iload 4, 2) := by decide +kernel
theorem d_La_law_1250 : decode b_La_law 1250 = .ok (.iconst 1, 1) := by decide +kernel
theorem d_La_law_1251 : decode b_La_law 1251 = .ok (.iadd, 1) := by decide +kernel
theorem d_La_law_1252 : decode b_La_law 1252 = .ok (.iaload, 1) := by decide +kernel
theorem d_La_law_1253 : decode b_La_law 1253 = .ok (.aload_n 0, 1) := by decide +kernel
theorem d_La_law_1254 : decode b_La_law 1254 = .ok (.iload 4, 2) := by decide +kernel
theorem d_La_law_1256 : decode b_La_law 1256 = .ok (.iconst 2, 1) := by decide +kernel
theorem d_La_law_1257 : decode b_La_law 1257 = .ok (.iadd, 1) := by decide +kernel
theorem d_La_law_1258 : decode b_La_law 1258 = .ok (.iaload, 1) := by decide +kernel
theorem d_La_law_1259 : decode b_La_law 1259 = .ok (.invokevirtual 164, 3) := by decide +kernel
theorem d_La_law_1262 : decode b_La_law 1262 = .ok (.aload_n 2, 1) := by decide +kernel
theorem d_La_law_1263 : decode b_La_law 1263 = .ok (.aload_n 0, 1) := by decide +kernel
theorem d_La_law_1264 : decode b_La_law 1264 = .ok (.iload 4, 2) := by decide +kernel
theorem d_La_law_1266 : decode b_La_law 1266 = .ok (.iconst 1, 1) := by decide +kernel
theorem d_La_law_1267 : decode b_La_law 1267 = .ok (.iadd, 1) := by decide +kernel
theorem d_La_law_1268 : decode b_La_law 1268 = .ok (.iaload, 1) := by decide +kernel
theorem d_La_law_1269 : decode b_La_law 1269 = .ok (.aload_n 0, 1) := by decide +kernel
theorem d_La_law_1270 : decode b_La_law 1270 = .ok (.iload 4, 2) := by decide +kernel
theorem d_La_law_1272 : decode b_La_law 1272 = .ok (.iconst 2, 1) := by decide +kernel
theorem d_La_law_1273 : decode b_La_law 1273 = .ok (.iadd, 1) := by decide +kernel
theorem d_La_law_1274 : decode b_La_law 1274 = .ok (.iaload, 1) := by decide +kernel
theorem d_La_law_1275 : decode b_La_law 1275 = .ok (.invokevirtual 167, 3) := by decide +kernel
theorem d_La_law_1278 : decode b_La_law 1278 = .ok (.if_icmp .eq 110, 3) := by decide +kernel
theorem d_La_law_1281 : decode b_La_law 1281 = .ok (.iconst 0, 1) := by decide +kernel
theorem d_La_law_1283 : decode b_La_law 1283 = .ok (.aload_n 1, 1) := by decide +kernel
theorem d_La_law_1284 : decode b_La_law 1284 = .ok (.aload_n 0, 1) := by decide +kernel
theorem d_La_law_1285 : decode b_La_law 1285 = .ok (.iload 4, 2) := by decide +kernel
theorem d_La_law_1287 : decode b_La_law 1287 = .ok (.iconst 1, 1) := by decide +kernel
theorem d_La_law_1288 : decode b_La_law 1288 = .ok (.iadd, 1) := by decide +kernel
theorem d_La_law_1289 : decode b_La_law 1289 = .ok (.iaload, 1) := by decide +kernel
theorem d_La_law_1290 : decode b_La_law 1290 = .ok (.aload_n 0, 1) := by decide +kernel
theorem d_La_law_1291 : decode b_La_law 1291 = .ok (.iload 4, 2) := by decide +kernel
theorem d_La_law_1293 : decode b_La_law 1293 = .ok (.iconst 2, 1) := by decide +kernel
theorem d_La_law_1294 : decode b_La_law 1294 = .ok (.iadd, 1) := by decide +kernel
theorem d_La_law_1295 : decode b_La_law 1295 = .ok (.iaload, 1) := by decide +kernel
theorem d_La_law_1296 : decode b_La_law 1296 = .ok (.invokevirtual 168, 3) := by decide +kernel
theorem d_La_law_1299 : decode b_La_law 1299 = .ok (.aload_n 2, 1) := by decide +kernel
theorem d_La_law_1300 : decode b_La_law 1300 = .ok (.aload_n 0, 1) := by decide +kernel
theorem d_La_law_1301 : decode b_La_law 1301 = .ok (.iload 4, 2) := by decide +kernel
theorem d_La_law_1303 : decode b_La_law 1303 = .ok (.iconst 1, 1) := by decide +kernel
theorem d_La_law_1304 : decode b_La_law 1304 = .ok (.iadd, 1) := by decide +kernel
theorem d_La_law_1305 : decode b_La_law 1305 = .ok (.iaload, 1) := by decide +kernel
theorem d_La_law_1306 : decode b_La_law 1306 = .ok (.aload_n 0, 1) := by decide +kernel
theorem d_La_law_1307 : decode b_La_law 1307 = .ok (.iload 4, 2) := by decide +kernel
theorem d_La_law_1309 : decode b_La_law 1309 = .ok (.iconst 2, 1) := by decide +kernel
theorem d_La_law_1310 : decode b_La_law 1310 = .ok (.iadd, 1) := by decide +kernel
theorem d_La_law_1311 : decode b_La_law 1311 = .ok (.iaload, 1) := by decide +kernel
theorem d_La_law_1312 : decode b_La_law 1312 = .ok (.invokevirtual 172, 3) := by decide +kernel
theorem d_La_law_1315 : decode b_La_law 1315 = .ok (.if_icmp .eq 73, 3) := by decide +kernel
theorem d_La_law_1318 : decode b_La_law 1318 = .ok (.iconst 0, 1) := by decide +kernel
theorem d_La_law_1320 : decode b_La_law 1320 = .ok (.aload_n 1, 1) := by decide +kernel
theorem d_La_law_1321 : decode b_La_law 1321 = .ok (.aload_n 0, 1) := by decide +kernel
theorem d_La_law_1322 : decode b_La_law 1322 = .ok (.iload 4, 2) := by decide +kernel
theorem d_La_law_1324 : decode b_La_law 1324 = .ok (.iconst 1, 1) := by decide +kernel
theorem d_La_law_1325 : decode b_La_law 1325 = .ok (.iadd, 1) := by decide +kernel
theorem d_La_law_1326 : decode b_La_law 1326 = .ok (.iaload, 1) := by decide +kernel
theorem d_La_law_1327 : decode b_La_law 1327 = .ok (.aload_n 0, 1) := by decide +kernel
theorem d_La_law_1328 : decode b_La_law 1328 = .ok (.iload 4, 2) := by decide +kernel
theorem d_La_law_1330 : decode b_La_law 1330 = .ok (.iconst 2, 1) := by decide +kernel
theorem d_La_law_1331 : decode b_La_law 1331 = .ok (.iadd, 1) := by decide +kernel
theorem d_La_law_1332 : decode b_La_law 1332 = .ok (.iaload, 1) := by decide +kernel
theorem d_La_law_1333 : decode b_La_law 1333 = .ok (.aload_n 3, 1) := by decide +kernel
theorem d_La_law_1334 : decode b_La_law 1334 = .ok (.invokestatic 173, 3) := by decide +kernel
theorem d_La_law_1337 : decode b_La_law 1337 = .ok (.istore 5, 2) := by decide +kernel
theorem d_La_law_1339 : decode b_La_law 1339 = .ok (.aload_n 2, 1) := by decide +kernel
theorem d_La_law_1340 : decode b_La_law 1340 = .ok (.aload_n 0, 1) := by decide +kernel
theorem d_La_law_1341 : decode b_La_law 1341 = .ok (.iload 4, 2) := by decide +kernel
theorem d_La_law_1343 : decode b_La_law 1343 = .ok (.iconst 1, 1) := by decide +kernel
theorem d_La_law_1344 : decode b_La_law 1344 = .ok (.iadd, 1) := by decide +kernel
theorem d_La_law_1345 : decode b_La_law 1345 = .ok (.iaload, 1) := by decide +kernel
theorem d_La_law_1346 : decode b_La_law 1346 = .ok (.aload_n 0, 1) := by decide +kernel
theorem d_La_law_1347 : decode b_La_law 1347 = .ok (.iload 4, 2) := by decide +kernel
theorem d_La_law_1349 : decode b_La_law 1349 = .ok (.iconst 2, 1) := by decide +kernel
theorem d_La_law_1350 : decode b_La_law 1350 = .ok (.iadd, 1) := by decide +kernel
theorem d_La_law_1351 : decode b_La_law 1351 = .ok (.iaload, 1) := by decide +kernel
theorem d_La_law_1352 : decode b_La_law 1352 = .ok (.invokevirtual 175, 3) := by decide +kernel
theorem d_La_law_1355 : decode b_La_law 1355 = .ok (.istore 6, 2) := by decide +kernel
theorem d_La_law_1357 : decode b_La_law 1357 = .ok (.aload_n 2, 1) := by decide +kernel
theorem d_La_law_1358 : decode b_La_law 1358 = .ok (.invokevirtual 97, 3) := by decide +kernel
theorem d_La_law_1361 : decode b_La_law 1361 = .ok (.iload 5, 2) := by decide +kernel
theorem d_La_law_1363 : decode b_La_law 1363 = .ok (.if_icmp .eq 5, 3) := by decide +kernel
theorem d_La_law_1366 : decode b_La_law 1366 = .ok (.iconst 0, 1) := by decide +kernel
theorem d_La_law_1368 : decode b_La_law 1368 = .ok (.iload 5, 2) := by decide +kernel
theorem d_La_law_1370 : decode b_La_law 1370 = .ok (.ifCond .ne 15, 3) := by decide +kernel
theorem d_La_law_1373 : decode b_La_law 1373 = .ok (.aload_n 3, 1) := by decide +kernel
theorem d_La_law_1374 : decode b_La_law 1374 = .ok (.iconst 0, 1) := by decide +kernel
theorem d_La_law_1375 : decode b_La_law 1375 = .ok (.laload, 1) := by decide +kernel
theorem d_La_law_1376 : decode b_La_law 1376 = .ok (.iload 6, 2) := by decide +kernel
theorem d_La_law_1378 : decode b_La_law 1378 = .ok (.i2l, 1) := by decide +kernel
theorem d_La_law_1379 : decode b_La_law 1379 = .ok (.lcmp, 1) := by decide +kernel
theorem d_La_law_1380 : decode b_La_law 1380 = .ok (.ifCond .eq 5, 3) := by decide +kernel
theorem d_La_law_1383 : decode b_La_law 1383 = .ok (.iconst 0, 1) := by decide +kernel
theorem d_La_law_1385 : decode b_La_law 1385 = .ok (.goto 3, 3) := by decide +kernel
theorem d_La_law_1388 : decode b_La_law 1388 = .ok (.iinc 4 6, 3) := by decide +kernel
theorem d_La_law_1391 : decode b_La_law 1391 = .ok (.goto (-1358), 3) := by decide +kernel
theorem d_La_law_1394 : decode b_La_law 1394 = .ok (.iconst 1, 1) := by decide +kernel
theorem d_La_law_1395 : decode b_La_law 1395 = .ok (.ireturn, 1) := by decide +kernel
