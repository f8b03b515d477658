theorem dL_law_0 : decode code 0 = .ok (.new 7, 3) := by decide +kernel
theorem dL_law_3 : decode code 3 = .ok (.dup, 1) := by decide +kernel
theorem dL_law_4 : decode code 4 = .ok (.invokespecial 9, 3) := by decide +kernel
theorem dL_law_7 : decode code 7 = .ok (.astore_n 1, 1) := by decide +kernel
theorem dL_law_8 : decode code 8 = .ok (.new 10, 3) := by decide +kernel
theorem dL_law_11 : decode code 11 = .ok (.dup, 1) := by decide +kernel
theorem dL_law_12 : decode code 12 = .ok (.invokespecial 12, 3) := by decide +kernel
theorem dL_law_15 : decode code 15 = .ok (.astore_n 2, 1) := by decide +kernel
theorem dL_law_16 : decode code 16 = .ok (.iconst 0, 1) := by decide +kernel
theorem dL_law_17 : decode code 17 = .ok (.istore_n 3, 1) := by decide +kernel
theorem dL_law_18 : decode code 18 = .ok (.iload_n 3, 1) := by decide +kernel
theorem dL_law_19 : decode code 19 = .ok (.aload_n 0, 1) := by decide +kernel
theorem dL_law_20 : decode code 20 = .ok (.arraylength, 1) := by decide +kernel
theorem dL_law_21 : decode code 21 = .ok (.bipush 6, 2) := by decide +kernel
theorem dL_law_23 : decode code 23 = .ok (.isub, 1) := by decide +kernel
theorem dL_law_24 : decode code 24 = .ok (.if_icmp .gt 988, 3) := by decide +kernel
theorem dL_law_27 : decode code 27 = .ok (.aload_n 0, 1) := by decide +kernel
theorem dL_law_28 : decode code 28 = .ok (.iload_n 3, 1) := by decide +kernel
theorem dL_law_29 : decode code 29 = .ok (.iaload, 1) := by decide +kernel
theorem dL_law_30 : decode code 30 = .ok (.bipush 31, 2) := by decide +kernel
theorem dL_law_32 : decode code 32 = .ok (.iand, 1) := by decide +kernel
theorem dL_law_33 : decode code 33 = .ok (.tableswitch 973 0 30 #[139, 162, 195, 258, 281, 304, 337, 350, 363, 396, 409, 432, 455, 488, 521, 544, 577, 600, 623, 656, 699, 722, 756, 779, 802, 835, 878, 901, 914, 927, 950], 139) := by decide +kernel
theorem dL_law_172 : decode code 172 = .ok (.aload_n 1, 1) := by decide +kernel
theorem dL_law_173 : decode code 173 = .ok (.aload_n 0, 1) := by decide +kernel
theorem dL_law_174 : decode code 174 = .ok (.iload_n 3, 1) := by decide +kernel
theorem dL_law_175 : decode code 175 = .ok (.iconst 1, 1) := by decide +kernel
theorem dL_law_176 : decode code 176 = .ok (.iadd, 1) := by decide +kernel
theorem dL_law_177 : decode code 177 = .ok (.iaload, 1) := by decide +kernel
theorem dL_law_178 : decode code 178 = .ok (.invokevirtual 13, 3) := by decide +kernel
theorem dL_law_181 : decode code 181 = .ok (.aload_n 2, 1) := by decide +kernel
theorem dL_law_182 : decode code 182 = .ok (.aload_n 0, 1) := by decide +kernel
theorem dL_law_183 : decode code 183 = .ok (.iload_n 3, 1) := by decide +kernel
theorem dL_law_184 : decode code 184 = .ok (.iconst 1, 1) := by decide +kernel
theorem dL_law_185 : decode code 185 = .ok (.iadd, 1) := by decide +kernel
theorem dL_law_186 : decode code 186 = .ok (.iaload, 1) := by decide +kernel
theorem dL_law_187 : decode code 187 = .ok (.invokevirtual 17, 3) := by decide +kernel
theorem dL_law_190 : decode code 190 = .ok (.if_icmp .eq 816, 3) := by decide +kernel
theorem dL_law_193 : decode code 193 = .ok (.iconst 0, 1) := by decide +kernel
theorem dL_law_194 : decode code 194 = .ok (.ireturn, 1) := by decide +kernel
theorem dL_law_195 : decode code 195 = .ok (.aload_n 1, 1) := by decide +kernel
theorem dL_law_196 : decode code 196 = .ok (.aload_n 0, 1) := by decide +kernel
theorem dL_law_197 : decode code 197 = .ok (.iload_n 3, 1) := by decide +kernel
theorem dL_law_198 : decode code 198 = .ok (.iconst 1, 1) := by decide +kernel
theorem dL_law_199 : decode code 199 = .ok (.iadd, 1) := by decide +kernel
theorem dL_law_200 : decode code 200 = .ok (.iaload, 1) := by decide +kernel
theorem dL_law_201 : decode code 201 = .ok (.aload_n 0, 1) := by decide +kernel
theorem dL_law_202 : decode code 202 = .ok (.iload_n 3, 1) := by decide +kernel
theorem dL_law_203 : decode code 203 = .ok (.iconst 2, 1) := by decide +kernel
theorem dL_law_204 : decode code 204 = .ok (.iadd, 1) := by decide +kernel
theorem dL_law_205 : decode code 205 = .ok (.iaload, 1) := by decide +kernel
theorem dL_law_206 : decode code 206 = .ok (.invokevirtual 18, 3) := by decide +kernel
theorem dL_law_209 : decode code 209 = .ok (.aload_n 2, 1) := by decide +kernel
theorem dL_law_210 : decode code 210 = .ok (.aload_n 0, 1) := by decide +kernel
theorem dL_law_211 : decode code 211 = .ok (.iload_n 3, 1) := by decide +kernel
theorem dL_law_212 : decode code 212 = .ok (.iconst 1, 1) := by decide +kernel
theorem dL_law_213 : decode code 213 = .ok (.iadd, 1) := by decide +kernel
theorem dL_law_214 : decode code 214 = .ok (.iaload, 1) := by decide +kernel
theorem dL_law_215 : decode code 215 = .ok (.aload_n 0, 1) := by decide +kernel
theorem dL_law_216 : decode code 216 = .ok (.iload_n 3, 1) := by decide +kernel
theorem dL_law_217 : decode code 217 = .ok (.iconst 2, 1) := by decide +kernel
theorem dL_law_218 : decode code 218 = .ok (.iadd, 1) := by decide +kernel
theorem dL_law_219 : decode code 219 = .ok (.iaload, 1) := by decide +kernel
theorem dL_law_220 : decode code 220 = .ok (.invokevirtual 22, 3) := by decide +kernel
theorem dL_law_223 : decode code 223 = .ok (.if_icmp .eq 783, 3) := by decide +kernel
theorem dL_law_226 : decode code 226 = .ok (.iconst 0, 1) := by decide +kernel
theorem dL_law_227 : decode code 227 = .ok (.ireturn, 1) := by decide +kernel
theorem dL_law_228 : decode code 228 = .ok (.aload_n 1, 1) := by decide +kernel
theorem dL_law_229 : decode code 229 = .ok (.aload_n 0, 1) := by decide +kernel
theorem dL_law_230 : decode code 230 = .ok (.iload_n 3, 1) := by decide +kernel
theorem dL_law_231 : decode code 231 = .ok (.iconst 1, 1) := by decide +kernel
theorem dL_law_232 : decode code 232 = .ok (.iadd, 1) := by decide +kernel
theorem dL_law_233 : decode code 233 = .ok (.iaload, 1) := by decide +kernel
theorem dL_law_234 : decode code 234 = .ok (.aload_n 0, 1) := by decide +kernel
theorem dL_law_235 : decode code 235 = .ok (.iload_n 3, 1) := by decide +kernel
theorem dL_law_236 : decode code 236 = .ok (.iconst 2, 1) := by decide +kernel
theorem dL_law_237 : decode code 237 = .ok (.iadd, 1) := by decide +kernel
theorem dL_law_238 : decode code 238 = .ok (.iaload, 1) := by decide +kernel
theorem dL_law_239 : decode code 239 = .ok (.aload_n 0, 1) := by decide +kernel
theorem dL_law_240 : decode code 240 = .ok (.iload_n 3, 1) := by decide +kernel
theorem dL_law_241 : decode code 241 = .ok (.iconst 3, 1) := by decide +kernel
theorem dL_law_242 : decode code 242 = .ok (.iadd, 1) := by decide +kernel
theorem dL_law_243 : decode code 243 = .ok (.iaload, 1) := by decide +kernel
theorem dL_law_244 : decode code 244 = .ok (.aload_n 0, 1) := by decide +kernel
theorem dL_law_245 : decode code 245 = .ok (.iload_n 3, 1) := by decide +kernel
theorem dL_law_246 : decode code 246 = .ok (.iconst 4, 1) := by decide +kernel
theorem dL_law_247 : decode code 247 = .ok (.iadd, 1) := by decide +kernel
theorem dL_law_248 : decode code 248 = .ok (.iaload, 1) := by decide +kernel
theorem dL_law_249 : decode code 249 = .ok (.aload_n 0, 1) := by decide +kernel
theorem dL_law_250 : decode code 250 = .ok (.iload_n 3, 1) := by decide +kernel
theorem dL_law_251 : decode code 251 = .ok (.iconst 5, 1) := by decide +kernel
theorem dL_law_252 : decode code 252 = .ok (.iadd, 1) := by decide +kernel
theorem dL_law_253 : decode code 253 = .ok (.iaload, 1) := by decide +kernel
theorem dL_law_254 : decode code 254 = .ok (.invokevirtual 23, 3) := by decide +kernel
theorem dL_law_257 : decode code 257 = .ok (.aload_n 2, 1) := by decide +kernel
theorem dL_law_258 : decode code 258 = .ok (.aload_n 0, 1) := by decide +kernel
theorem dL_law_259 : decode code 259 = .ok (.iload_n 3, 1) := by decide +kernel
theorem dL_law_260 : decode code 260 = .ok (.iconst 1, 1) := by decide +kernel
theorem dL_law_261 : decode code 261 = .ok (.iadd, 1) := by decide +kernel
theorem dL_law_262 : decode code 262 = .ok (.iaload, 1) := by decide +kernel
theorem dL_law_263 : decode code 263 = .ok (.aload_n 0, 1) := by decide +kernel
theorem dL_law_264 : decode code 264 = .ok (.iload_n 3, 1) := by decide +kernel
theorem dL_law_265 : decode code 265 = .ok (.iconst 2, 1) := by decide +kernel
theorem dL_law_266 : decode code 266 = .ok (.iadd, 1) := by decide +kernel
theorem dL_law_267 : decode code 267 = .ok (.iaload, 1) := by decide +kernel
theorem dL_law_268 : decode code 268 = .ok (.aload_n 0, 1) := by decide +kernel
theorem dL_law_269 : decode code 269 = .ok (.iload_n 3, 1) := by decide +kernel
theorem dL_law_270 : decode code 270 = .ok (.iconst 3, 1) := by decide +kernel
theorem dL_law_271 : decode code 271 = .ok (.iadd, 1) := by decide +kernel
theorem dL_law_272 : decode code 272 = .ok (.iaload, 1) := by decide +kernel
theorem dL_law_273 : decode code 273 = .ok (.aload_n 0, 1) := by decide +kernel
theorem dL_law_274 : decode code 274 = .ok (.iload_n 3, 1) := by decide +kernel
theorem dL_law_275 : decode code 275 = .ok (.iconst 4, 1) := by decide +kernel
theorem dL_law_276 : decode code 276 = .ok (.iadd, 1) := by decide +kernel
theorem dL_law_277 : decode code 277 = .ok (.iaload, 1) := by decide +kernel
theorem dL_law_278 : decode code 278 = .ok (.aload_n 0, 1) := by decide +kernel
theorem dL_law_279 : decode code 279 = .ok (.iload_n 3, 1) := by decide +kernel
theorem dL_law_280 : decode code 280 = .ok (.iconst 5, 1) := by decide +kernel
theorem dL_law_281 : decode code 281 = .ok (.iadd, 1) := by decide +kernel
theorem dL_law_282 : decode code 282 = .ok (.iaload, 1) := by decide +kernel
theorem dL_law_283 : decode code 283 = .ok (.invokevirtual 27, 3) := by decide +kernel
theorem dL_law_286 : decode code 286 = .ok (.if_icmp .eq 720, 3) := by decide +kernel
theorem dL_law_289 : decode code 289 = .ok (.iconst 0, 1) := by decide +kernel
theorem dL_law_290 : decode code 290 = .ok (.ireturn, 1) := by decide +kernel
theorem dL_law_291 : decode code 291 = .ok (.aload_n 1, 1) := by decide +kernel
theorem dL_law_292 : decode code 292 = .ok (.aload_n 0, 1) := by decide +kernel
theorem dL_law_293 : decode code 293 = .ok (.iload_n 3, 1) := by decide +kernel
theorem dL_law_294 : decode code 294 = .ok (.iconst 1, 1) := by decide +kernel
theorem dL_law_295 : decode code 295 = .ok (.iadd, 1) := by decide +kernel
theorem dL_law_296 : decode code 296 = .ok (.iaload, 1) := by decide +kernel
theorem dL_law_297 : decode code 297 = .ok (.invokevirtual 28, 3) := by decide +kernel
theorem dL_law_300 : decode code 300 = .ok (.aload_n 2, 1) := by decide +kernel
theorem dL_law_301 : decode code 301 = .ok (.aload_n 0, 1) := by decide +kernel
theorem dL_law_302 : decode code 302 = .ok (.iload_n 3, 1) := by decide +kernel
theorem dL_law_303 : decode code 303 = .ok (.iconst 1, 1) := by decide +kernel
theorem dL_law_304 : decode code 304 = .ok (.iadd, 1) := by decide +kernel
theorem dL_law_305 : decode code 305 = .ok (.iaload, 1) := by decide +kernel
theorem dL_law_306 : decode code 306 = .ok (.invokevirtual 32, 3) := by decide +kernel
theorem dL_law_309 : decode code 309 = .ok (.if_icmp .eq 697, 3) := by decide +kernel
theorem dL_law_312 : decode code 312 = .ok (.iconst 0, 1) := by decide +kernel
theorem dL_law_313 : decode code 313 = .ok (.ireturn, 1) := by decide +kernel
theorem dL_law_314 : decode code 314 = .ok (.aload_n 1, 1) := by decide +kernel
theorem dL_law_315 : decode code 315 = .ok (.aload_n 0, 1) := by decide +kernel
theorem dL_law_316 : decode code 316 = .ok (.iload_n 3, 1) := by decide +kernel
theorem dL_law_317 : decode code 317 = .ok (.iconst 1, 1) := by decide +kernel
theorem dL_law_318 : decode code 318 = .ok (.iadd, 1) := by decide +kernel
theorem dL_law_319 : decode code 319 = .ok (.iaload, 1) := by decide +kernel
theorem dL_law_320 : decode code 320 = .ok (.invokevirtual 33, 3) := by decide +kernel
theorem dL_law_323 : decode code 323 = .ok (.aload_n 2, 1) := by decide +kernel
theorem dL_law_324 : decode code 324 = .ok (.aload_n 0, 1) := by decide +kernel
theorem dL_law_325 : decode code 325 = .ok (.iload_n 3, 1) := by decide +kernel
theorem dL_law_326 : decode code 326 = .ok (.iconst 1, 1) := by decide +kernel
theorem dL_law_327 : decode code 327 = .ok (.iadd, 1) := by decide +kernel
theorem dL_law_328 : decode code 328 = .ok (.iaload, 1) := by decide +kernel
theorem dL_law_329 : decode code 329 = .ok (.invokevirtual 36, 3) := by decide +kernel
theorem dL_law_332 : decode code 332 = .ok (.if_icmp .eq 674, 3) := by decide +kernel
theorem dL_law_335 : decode code 335 = .ok (.iconst 0, 1) := by decide +kernel
theorem dL_law_336 : decode code 336 = .ok (.ireturn, 1) := by decide +kernel
theorem dL_law_337 : decode code 337 = .ok (.aload_n 1, 1) := by decide +kernel
theorem dL_law_338 : decode code 338 = .ok (.aload_n 0, 1) := by decide +kernel
theorem dL_law_339 : decode code 339 = .ok (.iload_n 3, 1) := by decide +kernel
theorem dL_law_340 : decode code 340 = .ok (.iconst 1, 1) := by decide +kernel
theorem dL_law_341 : decode code 341 = .ok (.iadd, 1) := by decide +kernel
theorem dL_law_342 : decode code 342 = .ok (.iaload, 1) := by decide +kernel
theorem dL_law_343 : decode code 343 = .ok (.aload_n 0, 1) := by decide +kernel
theorem dL_law_344 : decode code 344 = .ok (.iload_n 3, 1) := by decide +kernel
theorem dL_law_345 : decode code 345 = .ok (.iconst 2, 1) := by decide +kernel
theorem dL_law_346 : decode code 346 = .ok (.iadd, 1) := by decide +kernel
theorem dL_law_347 : decode code 347 = .ok (.iaload, 1) := by decide +kernel
theorem dL_law_348 : decode code 348 = .ok (.invokevirtual 37, 3) := by decide +kernel
theorem dL_law_351 : decode code 351 = .ok (.aload_n 2, 1) := by decide +kernel
theorem dL_law_352 : decode code 352 = .ok (.aload_n 0, 1) := by decide +kernel
theorem dL_law_353 : decode code 353 = .ok (.iload_n 3, 1) := by decide +kernel
theorem dL_law_354 : decode code 354 = .ok (.iconst 1, 1) := by decide +kernel
theorem dL_law_355 : decode code 355 = .ok (.iadd, 1) := by decide +kernel
theorem dL_law_356 : decode code 356 = .ok (.iaload, 1) := by decide +kernel
theorem dL_law_357 : decode code 357 = .ok (.aload_n 0, 1) := by decide +kernel
theorem dL_law_358 : decode code 358 = .ok (.iload_n 3, 1) := by decide +kernel
theorem dL_law_359 : decode code 359 = .ok (.iconst 2, 1) := by decide +kernel
theorem dL_law_360 : decode code 360 = .ok (.iadd, 1) := by decide +kernel
theorem dL_law_361 : decode code 361 = .ok (.iaload, 1) := by decide +kernel
theorem dL_law_362 : decode code 362 = .ok (.invokevirtual 41, 3) := by decide +kernel
theorem dL_law_365 : decode code 365 = .ok (.if_icmp .eq 641, 3) := by decide +kernel
theorem dL_law_368 : decode code 368 = .ok (.iconst 0, 1) := by decide +kernel
theorem dL_law_369 : decode code 369 = .ok (.ireturn, 1) := by decide +kernel
theorem dL_law_370 : decode code 370 = .ok (.aload_n 1, 1) := by decide +kernel
theorem dL_law_371 : decode code 371 = .ok (.invokevirtual 42, 3) := by decide +kernel
theorem dL_law_374 : decode code 374 = .ok (.aload_n 2, 1) := by decide +kernel
theorem dL_law_375 : decode code 375 = .ok (.invokevirtual 46, 3) := by decide +kernel
theorem dL_law_378 : decode code 378 = .ok (.if_icmp .eq 628, 3) := by decide +kernel
theorem dL_law_381 : decode code 381 = .ok (.iconst 0, 1) := by decide +kernel
theorem dL_law_382 : decode code 382 = .ok (.ireturn, 1) := by decide +kernel
theorem dL_law_383 : decode code 383 = .ok (.aload_n 1, 1) := by decide +kernel
theorem dL_law_384 : decode code 384 = .ok (.invokevirtual 47, 3) := by decide +kernel
theorem dL_law_387 : decode code 387 = .ok (.aload_n 2, 1) := by decide +kernel
theorem dL_law_388 : decode code 388 = .ok (.invokevirtual 50, 3) := by decide +kernel
theorem dL_law_391 : decode code 391 = .ok (.if_icmp .eq 615, 3) := by decide +kernel
theorem dL_law_394 : decode code 394 = .ok (.iconst 0, 1) := by decide +kernel
theorem dL_law_395 : decode code 395 = .ok (.ireturn, 1) := by decide +kernel
theorem dL_law_396 : decode code 396 = .ok (.aload_n 1, 1) := by decide +kernel
theorem dL_law_397 : decode code 397 = .ok (.aload_n 0, 1) := by decide +kernel
theorem dL_law_398 : decode code 398 = .ok (.iload_n 3, 1) := by decide +kernel
theorem dL_law_399 : decode code 399 = .ok (.iconst 1, 1) := by decide +kernel
theorem dL_law_400 : decode code 400 = .ok (.iadd, 1) := by decide +kernel
theorem dL_law_401 : decode code 401 = .ok (.iaload, 1) := by decide +kernel
theorem dL_law_402 : decode code 402 = .ok (.aload_n 0, 1) := by decide +kernel
theorem dL_law_403 : decode code 403 = .ok (.iload_n 3, 1) := by decide +kernel
theorem dL_law_404 : decode code 404 = .ok (.iconst 2, 1) := by decide +kernel
theorem dL_law_405 : decode code 405 = .ok (.iadd, 1) := by decide +kernel
theorem dL_law_406 : decode code 406 = .ok (.iaload, 1) := by decide +kernel
theorem dL_law_407 : decode code 407 = .ok (.invokevirtual 51, 3) := by decide +kernel
theorem dL_law_410 : decode code 410 = .ok (.aload_n 2, 1) := by decide +kernel
theorem dL_law_411 : decode code 411 = .ok (.aload_n 0, 1) := by decide +kernel
theorem dL_law_412 : decode code 412 = .ok (.iload_n 3, 1) := by decide +kernel
theorem dL_law_413 : decode code 413 = .ok (.iconst 1, 1) := by decide +kernel
theorem dL_law_414 : decode code 414 = .ok (.iadd, 1) := by decide +kernel
theorem dL_law_415 : decode code 415 = .ok (.iaload, 1) := by decide +kernel
theorem dL_law_416 : decode code 416 = .ok (.aload_n 0, 1) := by decide +kernel
theorem dL_law_417 : decode code 417 = .ok (.iload_n 3, 1) := by decide +kernel
theorem dL_law_418 : decode code 418 = .ok (.iconst 2, 1) := by decide +kernel
theorem dL_law_419 : decode code 419 = .ok (.iadd, 1) := by decide +kernel
theorem dL_law_420 : decode code 420 = .ok (.iaload, 1) := by decide +kernel
theorem dL_law_421 : decode code 421 = .ok (.invokevirtual 54, 3) := by decide +kernel
theorem dL_law_424 : decode code 424 = .ok (.if_icmp .eq 582, 3) := by decide +kernel
theorem dL_law_427 : decode code 427 = .ok (.iconst 0, 1) := by decide +kernel
theorem dL_law_428 : decode code 428 = .ok (.ireturn, 1) := by decide +kernel
theorem dL_law_429 : decode code 429 = .ok (.aload_n 1, 1) := by decide +kernel
theorem dL_law_430 : decode code 430 = .ok (.invokevirtual 55, 3) := by decide +kernel
theorem dL_law_433 : decode code 433 = .ok (.aload_n 2, 1) := by decide +kernel
theorem dL_law_434 : decode code 434 = .ok (.invokevirtual 58, 3) := by decide +kernel
theorem dL_law_437 : decode code 437 = .ok (.if_icmp .eq 569, 3) := by decide +kernel
theorem dL_law_440 : decode code 440 = .ok (.iconst 0, 1) := by decide +kernel
theorem dL_law_441 : decode code 441 = .ok (.ireturn, 1) := by decide +kernel
theorem dL_law_442 : decode code 442 = .ok (.aload_n 1, 1) := by decide +kernel
theorem dL_law_443 : decode code 443 = .ok (.aload_n 0, 1) := by decide +kernel
theorem dL_law_444 : decode code 444 = .ok (.iload_n 3, 1) := by decide +kernel
theorem dL_law_445 : decode code 445 = .ok (.iconst 1, 1) := by decide +kernel
theorem dL_law_446 : decode code 446 = .ok (.iadd, 1) := by decide +kernel
theorem dL_law_447 : decode code 447 = .ok (.iaload, 1) := by decide +kernel
theorem dL_law_448 : decode code 448 = .ok (.invokevirtual 59, 3) := by decide +kernel
theorem dL_law_451 : decode code 451 = .ok (.aload_n 2, 1) := by decide +kernel
theorem dL_law_452 : decode code 452 = .ok (.aload_n 0, 1) := by decide +kernel
theorem dL_law_453 : decode code 453 = .ok (.iload_n 3, 1) := by decide +kernel
theorem dL_law_454 : decode code 454 = .ok (.iconst 1, 1) := by decide +kernel
theorem dL_law_455 : decode code 455 = .ok (.iadd, 1) := by decide +kernel
theorem dL_law_456 : decode code 456 = .ok (.iaload, 1) := by decide +kernel
theorem dL_law_457 : decode code 457 = .ok (.invokevirtual 62, 3) := by decide +kernel
theorem dL_law_460 : decode code 460 = .ok (.if_icmp .eq 546, 3) := by decide +kernel
theorem dL_law_463 : decode code 463 = .ok (.iconst 0, 1) := by decide +kernel
theorem dL_law_464 : decode code 464 = .ok (.ireturn, 1) := by decide +kernel
theorem dL_law_465 : decode code 465 = .ok (.aload_n 1, 1) := by decide +kernel
theorem dL_law_466 : decode code 466 = .ok (.aload_n 0, 1) := by decide +kernel
theorem dL_law_467 : decode code 467 = .ok (.iload_n 3, 1) := by decide +kernel
theorem dL_law_468 : decode code 468 = .ok (.iconst 1, 1) := by decide +kernel
theorem dL_law_469 : decode code 469 = .ok (.iadd, 1) := by decide +kernel
theorem dL_law_470 : decode code 470 = .ok (.iaload, 1) := by decide +kernel
theorem dL_law_471 : decode code 471 = .ok (.invokevirtual 63, 3) := by decide +kernel
theorem dL_law_474 : decode code 474 = .ok (.aload_n 2, 1) := by decide +kernel
theorem dL_law_475 : decode code 475 = .ok (.aload_n 0, 1) := by decide +kernel
theorem dL_law_476 : decode code 476 = .ok (.iload_n 3, 1) := by decide +kernel
theorem dL_law_477 : decode code 477 = .ok (.iconst 1, 1) := by decide +kernel
theorem dL_law_478 : decode code 478 = .ok (.iadd, 1) := by decide +kernel
theorem dL_law_479 : decode code 479 = .ok (.iaload, 1) := by decide +kernel
theorem dL_law_480 : decode code 480 = .ok (.invokevirtual 66, 3) := by decide +kernel
theorem dL_law_483 : decode code 483 = .ok (.if_icmp .eq 523, 3) := by decide +kernel
theorem dL_law_486 : decode code 486 = .ok (.iconst 0, 1) := by decide +kernel
theorem dL_law_487 : decode code 487 = .ok (.ireturn, 1) := by decide +kernel
theorem dL_law_488 : decode code 488 = .ok (.aload_n 1, 1) := by decide +kernel
theorem dL_law_489 : decode code 489 = .ok (.aload_n 0, 1) := by decide +kernel
theorem dL_law_490 : decode code 490 = .ok (.iload_n 3, 1) := by decide +kernel
theorem dL_law_491 : decode code 491 = .ok (.iconst 1, 1) := by decide +kernel
theorem dL_law_492 : decode code 492 = .ok (.iadd, 1) := by decide +kernel
theorem dL_law_493 : decode code 493 = .ok (.iaload, 1) := by decide +kernel
theorem dL_law_494 : decode code 494 = .ok (.aload_n 0, 1) := by decide +kernel
theorem dL_law_495 : decode code 495 = .ok (.iload_n 3, 1) := by decide +kernel
theorem dL_law_496 : decode code 496 = .ok (.iconst 2, 1) := by decide +kernel
theorem dL_law_497 : decode code 497 = .ok (.iadd, 1) := by decide +kernel
theorem dL_law_498 : decode code 498 = .ok (.iaload, 1) := by decide +kernel
theorem dL_law_499 : decode code 499 = .ok (.invokevirtual 67, 3) := by decide +kernel
theorem dL_law_502 : decode code 502 = .ok (.aload_n 2, 1) := by decide +kernel
theorem dL_law_503 : decode code 503 = .ok (.aload_n 0, 1) := by decide +kernel
theorem dL_law_504 : decode code 504 = .ok (.iload_n 3, 1) := by decide +kernel
theorem dL_law_505 : decode code 505 = .ok (.iconst 1, 1) := by decide +kernel
theorem dL_law_506 : decode code 506 = .ok (.iadd, 1) := by decide +kernel
theorem dL_law_507 : decode code 507 = .ok (.iaload, 1) := by decide +kernel
theorem dL_law_508 : decode code 508 = .ok (.aload_n 0, 1) := by decide +kernel
theorem dL_law_509 : decode code 509 = .ok (.iload_n 3, 1) := by decide +kernel
theorem dL_law_510 : decode code 510 = .ok (.iconst 2, 1) := by decide +kernel
theorem dL_law_511 : decode code 511 = .ok (.iadd, 1) := by decide +kernel
theorem dL_law_512 : decode code 512 = .ok (.iaload, 1) := by decide +kernel
theorem dL_law_513 : decode code 513 = .ok (.invokevirtual 70, 3) := by decide +kernel
theorem dL_law_516 : decode code 516 = .ok (.if_icmp .eq 490, 3) := by decide +kernel
theorem dL_law_519 : decode code 519 = .ok (.iconst 0, 1) := by decide +kernel
theorem dL_law_520 : decode code 520 = .ok (.ireturn, 1) := by decide +kernel
theorem dL_law_521 : decode code 521 = .ok (.aload_n 1, 1) := by decide +kernel
theorem dL_law_522 : decode code 522 = .ok (.aload_n 0, 1) := by decide +kernel
theorem dL_law_523 : decode code 523 = .ok (.iload_n 3, 1) := by decide +kernel
theorem dL_law_524 : decode code 524 = .ok (.iconst 1, 1) := by decide +kernel
theorem dL_law_525 : decode code 525 = .ok (.iadd, 1) := by decide +kernel
theorem dL_law_526 : decode code 526 = .ok (.iaload, 1) := by decide +kernel
theorem dL_law_527 : decode code 527 = .ok (.aload_n 0, 1) := by decide +kernel
theorem dL_law_528 : decode code 528 = .ok (.iload_n 3, 1) := by decide +kernel
theorem dL_law_529 : decode code 529 = .ok (.iconst 2, 1) := by decide +kernel
theorem dL_law_530 : decode code 530 = .ok (.iadd, 1) := by decide +kernel
theorem dL_law_531 : decode code 531 = .ok (.iaload, 1) := by decide +kernel
theorem dL_law_532 : decode code 532 = .ok (.invokevirtual 71, 3) := by decide +kernel
theorem dL_law_535 : decode code 535 = .ok (.aload_n 2, 1) := by decide +kernel
theorem dL_law_536 : decode code 536 = .ok (.aload_n 0, 1) := by decide +kernel
theorem dL_law_537 : decode code 537 = .ok (.iload_n 3, 1) := by decide +kernel
theorem dL_law_538 : decode code 538 = .ok (.iconst 1, 1) := by decide +kernel
theorem dL_law_539 : decode code 539 = .ok (.iadd, 1) := by decide +kernel
theorem dL_law_540 : decode code 540 = .ok (.iaload, 1) := by decide +kernel
theorem dL_law_541 : decode code 541 = .ok (.aload_n 0, 1) := by decide +kernel
theorem dL_law_542 : decode code 542 = .ok (.iload_n 3, 1) := by decide +kernel
theorem dL_law_543 : decode code 543 = .ok (.iconst 2, 1) := by decide +kernel
theorem dL_law_544 : decode code 544 = .ok (.iadd, 1) := by decide +kernel
theorem dL_law_545 : decode code 545 = .ok (.iaload, 1) := by decide +kernel
theorem dL_law_546 : decode code 546 = .ok (.invokevirtual 74, 3) := by decide +kernel
theorem dL_law_549 : decode code 549 = .ok (.if_icmp .eq 457, 3) := by decide +kernel
theorem dL_law_552 : decode code 552 = .ok (.iconst 0, 1) := by decide +kernel
theorem dL_law_553 : decode code 553 = .ok (.ireturn, 1) := by decide +kernel
theorem dL_law_554 : decode code 554 = .ok (.aload_n 1, 1) := by decide +kernel
theorem dL_law_555 : decode code 555 = .ok (.aload_n 0, 1) := by decide +kernel
theorem dL_law_556 : decode code 556 = .ok (.iload_n 3, 1) := by decide +kernel
theorem dL_law_557 : decode code 557 = .ok (.iconst 1, 1) := by decide +kernel
theorem dL_law_558 : decode code 558 = .ok (.iadd, 1) := by decide +kernel
theorem dL_law_559 : decode code 559 = .ok (.iaload, 1) := by decide +kernel
theorem dL_law_560 : decode code 560 = .ok (.invokevirtual 75, 3) := by decide +kernel
theorem dL_law_563 : decode code 563 = .ok (.aload_n 2, 1) := by decide +kernel
theorem dL_law_564 : decode code 564 = .ok (.aload_n 0, 1) := by decide +kernel
theorem dL_law_565 : decode code 565 = .ok (.iload_n 3, 1) := by decide +kernel
theorem dL_law_566 : decode code 566 = .ok (.iconst 1, 1) := by decide +kernel
theorem dL_law_567 : decode code 567 = .ok (.iadd, 1) := by decide +kernel
theorem dL_law_568 : decode code 568 = .ok (.iaload, 1) := by decide +kernel
theorem dL_law_569 : decode code 569 = .ok (.invokevirtual 78, 3) := by decide +kernel
theorem dL_law_572 : decode code 572 = .ok (.if_icmp .eq 434, 3) := by decide +kernel
theorem dL_law_575 : decode code 575 = .ok (.iconst 0, 1) := by decide +kernel
theorem dL_law_576 : decode code 576 = .ok (.ireturn, 1) := by decide +kernel
theorem dL_law_577 : decode code 577 = .ok (.aload_n 1, 1) := by decide +kernel
theorem dL_law_578 : decode code 578 = .ok (.aload_n 0, 1) := by decide +kernel
theorem dL_law_579 : decode code 579 = .ok (.iload_n 3, 1) := by decide +kernel
theorem dL_law_580 : decode code 580 = .ok (.iconst 1, 1) := by decide +kernel
theorem dL_law_581 : decode code 581 = .ok (.iadd, 1) := by decide +kernel
theorem dL_law_582 : decode code 582 = .ok (.iaload, 1) := by decide +kernel
theorem dL_law_583 : decode code 583 = .ok (.aload_n 0, 1) := by decide +kernel
theorem dL_law_584 : decode code 584 = .ok (.iload_n 3, 1) := by decide +kernel
theorem dL_law_585 : decode code 585 = .ok (.iconst 2, 1) := by decide +kernel
theorem dL_law_586 : decode code 586 = .ok (.iadd, 1) := by decide +kernel
theorem dL_law_587 : decode code 587 = .ok (.iaload, 1) := by decide +kernel
theorem dL_law_588 : decode code 588 = .ok (.invokevirtual 79, 3) := by decide +kernel
theorem dL_law_591 : decode code 591 = .ok (.aload_n 2, 1) := by decide +kernel
theorem dL_law_592 : decode code 592 = .ok (.aload_n 0, 1) := by decide +kernel
theorem dL_law_593 : decode code 593 = .ok (.iload_n 3, 1) := by decide +kernel
theorem dL_law_594 : decode code 594 = .ok (.iconst 1, 1) := by decide +kernel
theorem dL_law_595 : decode code 595 = .ok (.iadd, 1) := by decide +kernel
theorem dL_law_596 : decode code 596 = .ok (.iaload, 1) := by decide +kernel
theorem dL_law_597 : decode code 597 = .ok (.aload_n 0, 1) := by decide +kernel
theorem dL_law_598 : decode code 598 = .ok (.iload_n 3, 1) := by decide +kernel
theorem dL_law_599 : decode code 599 = .ok (.iconst 2, 1) := by decide +kernel
theorem dL_law_600 : decode code 600 = .ok (.iadd, 1) := by decide +kernel
theorem dL_law_601 : decode code 601 = .ok (.iaload, 1) := by decide +kernel
theorem dL_law_602 : decode code 602 = .ok (.invokevirtual 82, 3) := by decide +kernel
theorem dL_law_605 : decode code 605 = .ok (.if_icmp .eq 401, 3) := by decide +kernel
theorem dL_law_608 : decode code 608 = .ok (.iconst 0, 1) := by decide +kernel
theorem dL_law_609 : decode code 609 = .ok (.ireturn, 1) := by decide +kernel
theorem dL_law_610 : decode code 610 = .ok (.aload_n 1, 1) := by decide +kernel
theorem dL_law_611 : decode code 611 = .ok (.aload_n 0, 1) := by decide +kernel
theorem dL_law_612 : decode code 612 = .ok (.iload_n 3, 1) := by decide +kernel
theorem dL_law_613 : decode code 613 = .ok (.iconst 1, 1) := by decide +kernel
theorem dL_law_614 : decode code 614 = .ok (.iadd, 1) := by decide +kernel
theorem dL_law_615 : decode code 615 = .ok (.iaload, 1) := by decide +kernel
theorem dL_law_616 : decode code 616 = .ok (.invokevirtual 83, 3) := by decide +kernel
theorem dL_law_619 : decode code 619 = .ok (.aload_n 2, 1) := by decide +kernel
theorem dL_law_620 : decode code 620 = .ok (.aload_n 0, 1) := by decide +kernel
theorem dL_law_621 : decode code 621 = .ok (.iload_n 3, 1) := by decide +kernel
theorem dL_law_622 : decode code 622 = .ok (.iconst 1, 1) := by decide +kernel
theorem dL_law_623 : decode code 623 = .ok (.iadd, 1) := by decide +kernel
theorem dL_law_624 : decode code 624 = .ok (.iaload, 1) := by decide +kernel
theorem dL_law_625 : decode code 625 = .ok (.invokevirtual 86, 3) := by decide +kernel
theorem dL_law_628 : decode code 628 = .ok (.if_icmp .eq 378, 3) := by decide +kernel
theorem dL_law_631 : decode code 631 = .ok (.iconst 0, 1) := by decide +kernel
theorem dL_law_632 : decode code 632 = .ok (.ireturn, 1) := by decide +kernel
theorem dL_law_633 : decode code 633 = .ok (.aload_n 1, 1) := by decide +kernel
theorem dL_law_634 : decode code 634 = .ok (.aload_n 0, 1) := by decide +kernel
theorem dL_law_635 : decode code 635 = .ok (.iload_n 3, 1) := by decide +kernel
theorem dL_law_636 : decode code 636 = .ok (.iconst 1, 1) := by decide +kernel
theorem dL_law_637 : decode code 637 = .ok (.iadd, 1) := by decide +kernel
theorem dL_law_638 : decode code 638 = .ok (.iaload, 1) := by decide +kernel
theorem dL_law_639 : decode code 639 = .ok (.invokevirtual 87, 3) := by decide +kernel
theorem dL_law_642 : decode code 642 = .ok (.aload_n 2, 1) := by decide +kernel
theorem dL_law_643 : decode code 643 = .ok (.aload_n 0, 1) := by decide +kernel
theorem dL_law_644 : decode code 644 = .ok (.iload_n 3, 1) := by decide +kernel
theorem dL_law_645 : decode code 645 = .ok (.iconst 1, 1) := by decide +kernel
theorem dL_law_646 : decode code 646 = .ok (.iadd, 1) := by decide +kernel
theorem dL_law_647 : decode code 647 = .ok (.iaload, 1) := by decide +kernel
theorem dL_law_648 : decode code 648 = .ok (.invokevirtual 90, 3) := by decide +kernel
theorem dL_law_651 : decode code 651 = .ok (.if_icmp .eq 355, 3) := by decide +kernel
theorem dL_law_654 : decode code 654 = .ok (.iconst 0, 1) := by decide +kernel
theorem dL_law_655 : decode code 655 = .ok (.ireturn, 1) := by decide +kernel
theorem dL_law_656 : decode code 656 = .ok (.aload_n 1, 1) := by decide +kernel
theorem dL_law_657 : decode code 657 = .ok (.aload_n 0, 1) := by decide +kernel
theorem dL_law_658 : decode code 658 = .ok (.iload_n 3, 1) := by decide +kernel
theorem dL_law_659 : decode code 659 = .ok (.iconst 1, 1) := by decide +kernel
theorem dL_law_660 : decode code 660 = .ok (.iadd, 1) := by decide +kernel
theorem dL_law_661 : decode code 661 = .ok (.iaload, 1) := by decide +kernel
theorem dL_law_662 : decode code 662 = .ok (.aload_n 0, 1) := by decide +kernel
theorem dL_law_663 : decode code 663 = .ok (.iload_n 3, 1) := by decide +kernel
theorem dL_law_664 : decode code 664 = .ok (.iconst 2, 1) := by decide +kernel
theorem dL_law_665 : decode code 665 = .ok (.iadd, 1) := by decide +kernel
theorem dL_law_666 : decode code 666 = .ok (.iaload, 1) := by decide +kernel
theorem dL_law_667 : decode code 667 = .ok (.invokevirtual 91, 3) := by decide +kernel
theorem dL_law_670 : decode code 670 = .ok (.aload_n 2, 1) := by decide +kernel
theorem dL_law_671 : decode code 671 = .ok (.aload_n 0, 1) := by decide +kernel
theorem dL_law_672 : decode code 672 = .ok (.iload_n 3, 1) := by decide +kernel
theorem dL_law_673 : decode code 673 = .ok (.iconst 1, 1) := by decide +kernel
theorem dL_law_674 : decode code 674 = .ok (.iadd, 1) := by decide +kernel
theorem dL_law_675 : decode code 675 = .ok (.iaload, 1) := by decide +kernel
theorem dL_law_676 : decode code 676 = .ok (.aload_n 0, 1) := by decide +kernel
theorem dL_law_677 : decode code 677 = .ok (.iload_n 3, 1) := by decide +kernel
theorem dL_law_678 : decode code 678 = .ok (.iconst 2, 1) := by decide +kernel
theorem dL_law_679 : decode code 679 = .ok (.iadd, 1) := by decide +kernel
theorem dL_law_680 : decode code 680 = .ok (.iaload, 1) := by decide +kernel
theorem dL_law_681 : decode code 681 = .ok (.invokevirtual 94, 3) := by decide +kernel
theorem dL_law_684 : decode code 684 = .ok (.if_icmp .eq 322, 3) := by decide +kernel
theorem dL_law_687 : decode code 687 = .ok (.iconst 0, 1) := by decide +kernel
theorem dL_law_688 : decode code 688 = .ok (.ireturn, 1) := by decide +kernel
theorem dL_law_689 : decode code 689 = .ok (.aload_n 1, 1) := by decide +kernel
theorem dL_law_690 : decode code 690 = .ok (.aload_n 0, 1) := by decide +kernel
theorem dL_law_691 : decode code 691 = .ok (.iload_n 3, 1) := by decide +kernel
theorem dL_law_692 : decode code 692 = .ok (.iconst 1, 1) := by decide +kernel
theorem dL_law_693 : decode code 693 = .ok (.iadd, 1) := by decide +kernel
theorem dL_law_694 : decode code 694 = .ok (.iaload, 1) := by decide +kernel
theorem dL_law_695 : decode code 695 = .ok (.aload_n 0, 1) := by decide +kernel
theorem dL_law_696 : decode code 696 = .ok (.iload_n 3, 1) := by decide +kernel
theorem dL_law_697 : decode code 697 = .ok (.iconst 2, 1) := by decide +kernel
theorem dL_law_698 : decode code 698 = .ok (.iadd, 1) := by decide +kernel
theorem dL_law_699 : decode code 699 = .ok (.iaload, 1) := by decide +kernel
theorem dL_law_700 : decode code 700 = .ok (.aload_n 0, 1) := by decide +kernel
theorem dL_law_701 : decode code 701 = .ok (.iload_n 3, 1) := by decide +kernel
theorem dL_law_702 : decode code 702 = .ok (.iconst 3, 1) := by decide +kernel
theorem dL_law_703 : decode code 703 = .ok (.iadd, 1) := by decide +kernel
theorem dL_law_704 : decode code 704 = .ok (.iaload, 1) := by decide +kernel
theorem dL_law_705 : decode code 705 = .ok (.invokevirtual 95, 3) := by decide +kernel
theorem dL_law_708 : decode code 708 = .ok (.aload_n 2, 1) := by decide +kernel
theorem dL_law_709 : decode code 709 = .ok (.aload_n 0, 1) := by decide +kernel
theorem dL_law_710 : decode code 710 = .ok (.iload_n 3, 1) := by decide +kernel
theorem dL_law_711 : decode code 711 = .ok (.iconst 1, 1) := by decide +kernel
theorem dL_law_712 : decode code 712 = .ok (.iadd, 1) := by decide +kernel
theorem dL_law_713 : decode code 713 = .ok (.iaload, 1) := by decide +kernel
theorem dL_law_714 : decode code 714 = .ok (.aload_n 0, 1) := by decide +kernel
theorem dL_law_715 : decode code 715 = .ok (.iload_n 3, 1) := by decide +kernel
theorem dL_law_716 : decode code 716 = .ok (.iconst 2, 1) := by decide +kernel
theorem dL_law_717 : decode code 717 = .ok (.iadd, 1) := by decide +kernel
theorem dL_law_718 : decode code 718 = .ok (.iaload, 1) := by decide +kernel
theorem dL_law_719 : decode code 719 = .ok (.aload_n 0, 1) := by decide +kernel
theorem dL_law_720 : decode code 720 = .ok (.iload_n 3, 1) := by decide +kernel
theorem dL_law_721 : decode code 721 = .ok (.iconst 3, 1) := by decide +kernel
theorem dL_law_722 : decode code 722 = .ok (.iadd, 1) := by decide +kernel
theorem dL_law_723 : decode code 723 = .ok (.iaload, 1) := by decide +kernel
theorem dL_law_724 : decode code 724 = .ok (.invokevirtual 99, 3) := by decide +kernel
theorem dL_law_727 : decode code 727 = .ok (.if_icmp .eq 279, 3) := by decide +kernel
theorem dL_law_730 : decode code 730 = .ok (.iconst 0, 1) := by decide +kernel
theorem dL_law_731 : decode code 731 = .ok (.ireturn, 1) := by decide +kernel
theorem dL_law_732 : decode code 732 = .ok (.aload_n 1, 1) := by decide +kernel
theorem dL_law_733 : decode code 733 = .ok (.aload_n 0, 1) := by decide +kernel
theorem dL_law_734 : decode code 734 = .ok (.iload_n 3, 1) := by decide +kernel
theorem dL_law_735 : decode code 735 = .ok (.iconst 1, 1) := by decide +kernel
theorem dL_law_736 : decode code 736 = .ok (.iadd, 1) := by decide +kernel
theorem dL_law_737 : decode code 737 = .ok (.iaload, 1) := by decide +kernel
theorem dL_law_738 : decode code 738 = .ok (.invokevirtual 100, 3) := by decide +kernel
theorem dL_law_741 : decode code 741 = .ok (.aload_n 2, 1) := by decide +kernel
theorem dL_law_742 : decode code 742 = .ok (.aload_n 0, 1) := by decide +kernel
theorem dL_law_743 : decode code 743 = .ok (.iload_n 3, 1) := by decide +kernel
theorem dL_law_744 : decode code 744 = .ok (.iconst 1, 1) := by decide +kernel
theorem dL_law_745 : decode code 745 = .ok (.iadd, 1) := by decide +kernel
theorem dL_law_746 : decode code 746 = .ok (.iaload, 1) := by decide +kernel
theorem dL_law_747 : decode code 747 = .ok (.invokevirtual 103, 3) := by decide +kernel
theorem dL_law_750 : decode code 750 = .ok (.if_icmp .eq 256, 3) := by decide +kernel
theorem dL_law_753 : decode code 753 = .ok (.iconst 0, 1) := by decide +kernel
theorem dL_law_754 : decode code 754 = .ok (.ireturn, 1) := by decide +kernel
theorem dL_law_755 : decode code 755 = .ok (.aload_n 1, 1) := by decide +kernel
theorem dL_law_756 : decode code 756 = .ok (.aload_n 0, 1) := by decide +kernel
theorem dL_law_757 : decode code 757 = .ok (.iload_n 3, 1) := by decide +kernel
theorem dL_law_758 : decode code 758 = .ok (.iconst 1, 1) := by decide +kernel
theorem dL_law_759 : decode code 759 = .ok (.iadd, 1) := by decide +kernel
theorem dL_law_760 : decode code 760 = .ok (.iaload, 1) := by decide +kernel
theorem dL_law_761 : decode code 761 = .ok (.aload_n 0, 1) := by decide +kernel
theorem dL_law_762 : decode code 762 = .ok (.iload_n 3, 1) := by decide +kernel
theorem dL_law_763 : decode code 763 = .ok (.iconst 2, 1) := by decide +kernel
theorem dL_law_764 : decode code 764 = .ok (.iadd, 1) := by decide +kernel
theorem dL_law_765 : decode code 765 = .ok (.iaload, 1) := by decide +kernel
theorem dL_law_766 : decode code 766 = .ok (.invokevirtual 104, 3) := by decide +kernel
theorem dL_law_769 : decode code 769 = .ok (.aload_n 2, 1) := by decide +kernel
theorem dL_law_770 : decode code 770 = .ok (.aload_n 0, 1) := by decide +kernel
theorem dL_law_771 : decode code 771 = .ok (.iload_n 3, 1) := by decide +kernel
theorem dL_law_772 : decode code 772 = .ok (.iconst 1, 1) := by decide +kernel
theorem dL_law_773 : decode code 773 = .ok (.iadd, 1) := by decide +kernel
theorem dL_law_774 : decode code 774 = .ok (.iaload, 1) := by decide +kernel
theorem dL_law_775 : decode code 775 = .ok (.aload_n 0, 1) := by decide +kernel
theorem dL_law_776 : decode code 776 = .ok (.iload_n 3, 1) := by decide +kernel
theorem dL_law_777 : decode code 777 = .ok (.iconst 2, 1) := by decide +kernel
theorem dL_law_778 : decode code 778 = .ok (.iadd, 1) := by decide +kernel
theorem dL_law_779 : decode code 779 = .ok (.iaload, 1) := by decide +kernel
theorem dL_law_780 : decode code 780 = .ok (.invokevirtual 108, 3) := by decide +kernel
theorem dL_law_783 : decode code 783 = .ok (.lcmp, 1) := by decide +kernel
theorem dL_law_784 : decode code 784 = .ok (.ifCond .eq 222, 3) := by decide +kernel
theorem dL_law_787 : decode code 787 = .ok (.iconst 0, 1) := by decide +kernel
theorem dL_law_788 : decode code 788 = .ok (.ireturn, 1) := by decide +kernel
theorem dL_law_789 : decode code 789 = .ok (.aload_n 1, 1) := by decide +kernel
theorem dL_law_790 : decode code 790 = .ok (.aload_n 0, 1) := by decide +kernel
theorem dL_law_791 : decode code 791 = .ok (.iload_n 3, 1) := by decide +kernel
theorem dL_law_792 : decode code 792 = .ok (.iconst 1, 1) := by decide +kernel
theorem dL_law_793 : decode code 793 = .ok (.iadd, 1) := by decide +kernel
theorem dL_law_794 : decode code 794 = .ok (.iaload, 1) := by decide +kernel
theorem dL_law_795 : decode code 795 = .ok (.invokevirtual 109, 3) := by decide +kernel
theorem dL_law_798 : decode code 798 = .ok (.aload_n 2, 1) := by decide +kernel
theorem dL_law_799 : decode code 799 = .ok (.aload_n 0, 1) := by decide +kernel
theorem dL_law_800 : decode code 800 = .ok (.iload_n 3, 1) := by decide +kernel
theorem dL_law_801 : decode code 801 = .ok (.iconst 1, 1) := by decide +kernel
theorem dL_law_802 : decode code 802 = .ok (.iadd, 1) := by decide +kernel
theorem dL_law_803 : decode code 803 = .ok (.iaload, 1) := by decide +kernel
theorem dL_law_804 : decode code 804 = .ok (.invokevirtual 112, 3) := by decide +kernel
theorem dL_law_807 : decode code 807 = .ok (.if_icmp .eq 199, 3) := by decide +kernel
theorem dL_law_810 : decode code 810 = .ok (.iconst 0, 1) := by decide +kernel
theorem dL_law_811 : decode code 811 = .ok (.ireturn, 1) := by decide +kernel
theorem dL_law_812 : decode code 812 = .ok (.aload_n 1, 1) := by decide +kernel
theorem dL_law_813 : decode code 813 = .ok (.aload_n 0, 1) := by decide +kernel
theorem dL_law_814 : decode code 814 = .ok (.iload_n 3, 1) := by decide +kernel
theorem dL_law_815 : decode code 815 = .ok (.iconst 1, 1) := by decide +kernel
theorem dL_law_816 : decode code 816 = .ok (.iadd, 1) := by decide +kernel
theorem dL_law_817 : decode code 817 = .ok (.iaload, 1) := by decide +kernel
theorem dL_law_818 : decode code 818 = .ok (.invokevirtual 113, 3) := by decide +kernel
theorem dL_law_821 : decode code 821 = .ok (.aload_n 2, 1) := by decide +kernel
theorem dL_law_822 : decode code 822 = .ok (.aload_n 0, 1) := by decide +kernel
theorem dL_law_823 : decode code 823 = .ok (.iload_n 3, 1) := by decide +kernel
theorem dL_law_824 : decode code 824 = .ok (.iconst 1, 1) := by decide +kernel
theorem dL_law_825 : decode code 825 = .ok (.iadd, 1) := by decide +kernel
theorem dL_law_826 : decode code 826 = .ok (.iaload, 1) := by decide +kernel
theorem dL_law_827 : decode code 827 = .ok (.invokevirtual 116, 3) := by decide +kernel
theorem dL_law_830 : decode code 830 = .ok (.if_icmp .eq 176, 3) := by decide +kernel
theorem dL_law_833 : decode code 833 = .ok (.iconst 0, 1) := by decide +kernel
theorem dL_law_834 : decode code 834 = .ok (.ireturn, 1) := by decide +kernel
theorem dL_law_835 : decode code 835 = .ok (.aload_n 1, 1) := by decide +kernel
theorem dL_law_836 : decode code 836 = .ok (.aload_n 0, 1) := by decide +kernel
theorem dL_law_837 : decode code 837 = .ok (.iload_n 3, 1) := by decide +kernel
theorem dL_law_838 : decode code 838 = .ok (.iconst 1, 1) := by decide +kernel
theorem dL_law_839 : decode code 839 = .ok (.iadd, 1) := by decide +kernel
theorem dL_law_840 : decode code 840 = .ok (.iaload, 1) := by decide +kernel
theorem dL_law_841 : decode code 841 = .ok (.aload_n 0, 1) := by decide +kernel
theorem dL_law_842 : decode code 842 = .ok (.iload_n 3, 1) := by decide +kernel
theorem dL_law_843 : decode code 843 = .ok (.iconst 2, 1) := by decide +kernel
theorem dL_law_844 : decode code 844 = .ok (.iadd, 1) := by decide +kernel
theorem dL_law_845 : decode code 845 = .ok (.iaload, 1) := by decide +kernel
theorem dL_law_846 : decode code 846 = .ok (.invokevirtual 117, 3) := by decide +kernel
theorem dL_law_849 : decode code 849 = .ok (.aload_n 2, 1) := by decide +kernel
theorem dL_law_850 : decode code 850 = .ok (.aload_n 0, 1) := by decide +kernel
theorem dL_law_851 : decode code 851 = .ok (.iload_n 3, 1) := by decide +kernel
theorem dL_law_852 : decode code 852 = .ok (.iconst 1, 1) := by decide +kernel
theorem dL_law_853 : decode code 853 = .ok (.iadd, 1) := by decide +kernel
theorem dL_law_854 : decode code 854 = .ok (.iaload, 1) := by decide +kernel
theorem dL_law_855 : decode code 855 = .ok (.aload_n 0, 1) := by decide +kernel
theorem dL_law_856 : decode code 856 = .ok (.iload_n 3, 1) := by decide +kernel
theorem dL_law_857 : decode code 857 = .ok (.iconst 2, 1) := by decide +kernel
theorem dL_law_858 : decode code 858 = .ok (.iadd, 1) := by decide +kernel
theorem dL_law_859 : decode code 859 = .ok (.iaload, 1) := by decide +kernel
theorem dL_law_860 : decode code 860 = .ok (.invokevirtual 120, 3) := by decide +kernel
theorem dL_law_863 : decode code 863 = .ok (.if_icmp .eq 143, 3) := by decide +kernel
theorem dL_law_866 : decode code 866 = .ok (.iconst 0, 1) := by decide +kernel
theorem dL_law_867 : decode code 867 = .ok (.ireturn, 1) := by decide +kernel
theorem dL_law_868 : decode code 868 = .ok (.aload_n 1, 1) := by decide +kernel
theorem dL_law_869 : decode code 869 = .ok (.aload_n 0, 1) := by decide +kernel
theorem dL_law_870 : decode code 870 = .ok (.iload_n 3, 1) := by decide +kernel
theorem dL_law_871 : decode code 871 = .ok (.iconst 1, 1) := by decide +kernel
theorem dL_law_872 : decode code 872 = .ok (.iadd, 1) := by decide +kernel
theorem dL_law_873 : decode code 873 = .ok (.iaload, 1) := by decide +kernel
theorem dL_law_874 : decode code 874 = .ok (.aload_n 0, 1) := by decide +kernel
theorem dL_law_875 : decode code 875 = .ok (.iload_n 3, 1) := by decide +kernel
theorem dL_law_876 : decode code 876 = .ok (.iconst 2, 1) := by decide +kernel
theorem dL_law_877 : decode code 877 = .ok (.iadd, 1) := by decide +kernel
theorem dL_law_878 : decode code 878 = .ok (.iaload, 1) := by decide +kernel
theorem dL_law_879 : decode code 879 = .ok (.aload_n 0, 1) := by decide +kernel
theorem dL_law_880 : decode code 880 = .ok (.iload_n 3, 1) := by decide +kernel
theorem dL_law_881 : decode code 881 = .ok (.iconst 3, 1) := by decide +kernel
theorem dL_law_882 : decode code 882 = .ok (.iadd, 1) := by decide +kernel
theorem dL_law_883 : decode code 883 = .ok (.iaload, 1) := by decide +kernel
theorem dL_law_884 : decode code 884 = .ok (.invokevirtual 121, 3) := by decide +kernel
theorem dL_law_887 : decode code 887 = .ok (.aload_n 2, 1) := by decide +kernel
theorem dL_law_888 : decode code 888 = .ok (.aload_n 0, 1) := by decide +kernel
theorem dL_law_889 : decode code 889 = .ok (.iload_n 3, 1) := by decide +kernel
theorem dL_law_890 : decode code 890 = .ok (.iconst 1, 1) := by decide +kernel
theorem dL_law_891 : decode code 891 = .ok (.iadd, 1) := by decide +kernel
theorem dL_law_892 : decode code 892 = .ok (.iaload, 1) := by decide +kernel
theorem dL_law_893 : decode code 893 = .ok (.aload_n 0, 1) := by decide +kernel
theorem dL_law_894 : decode code 894 = .ok (.iload_n 3, 1) := by decide +kernel
theorem dL_law_895 : decode code 895 = .ok (.iconst 2, 1) := by decide +kernel
theorem dL_law_896 : decode code 896 = .ok (.iadd, 1) := by decide +kernel
theorem dL_law_897 : decode code 897 = .ok (.iaload, 1) := by decide +kernel
theorem dL_law_898 : decode code 898 = .ok (.aload_n 0, 1) := by decide +kernel
theorem dL_law_899 : decode code 899 = .ok (.iload_n 3, 1) := by decide +kernel
theorem dL_law_900 : decode code 900 = .ok (.iconst 3, 1) := by decide +kernel
theorem dL_law_901 : decode code 901 = .ok (.iadd, 1) := by decide +kernel
theorem dL_law_902 : decode code 902 = .ok (.iaload, 1) := by decide +kernel
theorem dL_law_903 : decode code 903 = .ok (.invokevirtual 124, 3) := by decide +kernel
theorem dL_law_906 : decode code 906 = .ok (.if_icmp .eq 100, 3) := by decide +kernel
theorem dL_law_909 : decode code 909 = .ok (.iconst 0, 1) := by decide +kernel
theorem dL_law_910 : decode code 910 = .ok (.ireturn, 1) := by decide +kernel
theorem dL_law_911 : decode code 911 = .ok (.aload_n 1, 1) := by decide +kernel
theorem dL_law_912 : decode code 912 = .ok (.aload_n 0, 1) := by decide +kernel
theorem dL_law_913 : decode code 913 = .ok (.iload_n 3, 1) := by decide +kernel
theorem dL_law_914 : decode code 914 = .ok (.iconst 1, 1) := by decide +kernel
theorem dL_law_915 : decode code 915 = .ok (.iadd, 1) := by decide +kernel
theorem dL_law_916 : decode code 916 = .ok (.iaload, 1) := by decide +kernel
theorem dL_law_917 : decode code 917 = .ok (.invokevirtual 125, 3) := by decide +kernel
theorem dL_law_920 : decode code 920 = .ok (.aload_n 2, 1) := by decide +kernel
theorem dL_law_921 : decode code 921 = .ok (.aload_n 0, 1) := by decide +kernel
theorem dL_law_922 : decode code 922 = .ok (.iload_n 3, 1) := by decide +kernel
theorem dL_law_923 : decode code 923 = .ok (.iconst 1, 1) := by decide +kernel
theorem dL_law_924 : decode code 924 = .ok (.iadd, 1) := by decide +kernel
theorem dL_law_925 : decode code 925 = .ok (.iaload, 1) := by decide +kernel
theorem dL_law_926 : decode code 926 = .ok (.invokevirtual 128, 3) := by decide +kernel
theorem dL_law_929 : decode code 929 = .ok (.if_icmp .eq 77, 3) := by decide +kernel
theorem dL_law_932 : decode code 932 = .ok (.iconst 0, 1) := by decide +kernel
theorem dL_law_933 : decode code 933 = .ok (.ireturn, 1) := by decide +kernel
theorem dL_law_934 : decode code 934 = .ok (.aload_n 1, 1) := by decide +kernel
theorem dL_law_935 : decode code 935 = .ok (.invokevirtual 129, 3) := by decide +kernel
theorem dL_law_938 : decode code 938 = .ok (.aload_n 2, 1) := by decide +kernel
theorem dL_law_939 : decode code 939 = .ok (.invokevirtual 132, 3) := by decide +kernel
theorem dL_law_942 : decode code 942 = .ok (.if_icmp .eq 64, 3) := by decide +kernel
theorem dL_law_945 : decode code 945 = .ok (.iconst 0, 1) := by decide +kernel
theorem dL_law_946 : decode code 946 = .ok (.ireturn, 1) := by decide +kernel
theorem dL_law_947 : decode code 947 = .ok (.aload_n 1, 1) := by decide +kernel
theorem dL_law_948 : decode code 948 = .ok (.invokevirtual 133, 3) := by decide +kernel
theorem dL_law_951 : decode code 951 = .ok (.aload_n 2, 1) := by decide +kernel
theorem dL_law_952 : decode code 952 = .ok (.invokevirtual 137, 3) := by decide +kernel
theorem dL_law_955 : decode code 955 = .ok (.if_icmp .eq 51, 3) := by decide +kernel
theorem dL_law_958 : decode code 958 = .ok (.iconst 0, 1) := by decide +kernel
theorem dL_law_959 : decode code 959 = .ok (.ireturn, 1) := by decide +kernel
theorem dL_law_960 : decode code 960 = .ok (.aload_n 1, 1) := by decide +kernel
theorem dL_law_961 : decode code 961 = .ok (.aload_n 0, 1) := by decide +kernel
theorem dL_law_962 : decode code 962 = .ok (.iload_n 3, 1) := by decide +kernel
theorem dL_law_963 : decode code 963 = .ok (.iconst 1, 1) := by decide +kernel
theorem dL_law_964 : decode code 964 = .ok (.iadd, 1) := by decide +kernel
theorem dL_law_965 : decode code 965 = .ok (.iaload, 1) := by decide +kernel
theorem dL_law_966 : decode code 966 = .ok (.invokevirtual 138, 3) := by decide +kernel
theorem dL_law_969 : decode code 969 = .ok (.aload_n 2, 1) := by decide +kernel
theorem dL_law_970 : decode code 970 = .ok (.aload_n 0, 1) := by decide +kernel
theorem dL_law_971 : decode code 971 = .ok (.iload_n 3, 1) := by decide +kernel
theorem dL_law_972 : decode code 972 = .ok (.iconst 1, 1) := by decide +kernel
theorem dL_law_973 : decode code 973 = .ok (.iadd, 1) := by decide +kernel
theorem dL_law_974 : decode code 974 = .ok (.iaload, 1) := by decide +kernel
theorem dL_law_975 : decode code 975 = .ok (.invokevirtual 141, 3) := by decide +kernel
theorem dL_law_978 : decode code 978 = .ok (.if_icmp .eq 28, 3) := by decide +kernel
theorem dL_law_981 : decode code 981 = .ok (.iconst 0, 1) := by decide +kernel
theorem dL_law_982 : decode code 982 = .ok (.ireturn, 1) := by decide +kernel
theorem dL_law_983 : decode code 983 = .ok (.aload_n 1, 1) := by decide +kernel
theorem dL_law_984 : decode code 984 = .ok (.aload_n 0, 1) := by decide +kernel
theorem dL_law_985 : decode code 985 = .ok (.iload_n 3, 1) := by decide +kernel
theorem dL_law_986 : decode code 986 = .ok (.iconst 1, 1) := by decide +kernel
theorem dL_law_987 : decode code 987 = .ok (.iadd, 1) := by decide +kernel
theorem dL_law_988 : decode code 988 = .ok (.iaload, 1) := by decide +kernel
theorem dL_law_989 : decode code 989 = .ok (.invokevirtual 142, 3) := by decide +kernel
theorem dL_law_992 : decode code 992 = .ok (.aload_n 2, 1) := by decide +kernel
theorem dL_law_993 : decode code 993 = .ok (.aload_n 0, 1) := by decide +kernel
theorem dL_law_994 : decode code 994 = .ok (.iload_n 3, 1) := by decide +kernel
theorem dL_law_995 : decode code 995 = .ok (.iconst 1, 1) := by decide +kernel
theorem dL_law_996 : decode code 996 = .ok (.iadd, 1) := by decide +kernel
theorem dL_law_997 : decode code 997 = .ok (.iaload, 1) := by decide +kernel
theorem dL_law_998 : decode code 998 = .ok (.invokevirtual 145, 3) := by decide +kernel
theorem dL_law_1001 : decode code 1001 = .ok (.if_icmp .eq 5, 3) := by decide +kernel
theorem dL_law_1004 : decode code 1004 = .ok (.iconst 0, 1) := by decide +kernel
theorem dL_law_1005 : decode code 1005 = .ok (.ireturn, 1) := by decide +kernel
theorem dL_law_1006 : decode code 1006 = .ok (.iinc 3 6, 3) := by decide +kernel
theorem dL_law_1009 : decode code 1009 = .ok (.goto (-991), 3) := by decide +kernel
theorem dL_law_1012 : decode code 1012 = .ok (.iconst 1, 1) := by decide +kernel
theorem dL_law_1013 : decode code 1013 = .ok (.ireturn, 1) := by decide +kernel
theorem mlL_13 : Cond.methodLink R_law 13 yX11_modulus ∈ gtbl := gtbl_of 483 (by decide +kernel) rfl
theorem mlL_17 : Cond.methodLink R_law 17 yX12_modulus ∈ gtbl := gtbl_of 1397 (by decide +kernel) rfl
theorem mlL_18 : Cond.methodLink R_law 18 yX11_axiom ∈ gtbl := gtbl_of 505 (by decide +kernel) rfl
theorem mlL_22 : Cond.methodLink R_law 22 yX12_axiom ∈ gtbl := gtbl_of 1404 (by decide +kernel) rfl
theorem mlL_23 : Cond.methodLink R_law 23 yX11_feed ∈ gtbl := gtbl_of 514 (by decide +kernel) rfl
theorem mlL_27 : Cond.methodLink R_law 27 yX12_feed ∈ gtbl := gtbl_of 1408 (by decide +kernel) rfl
theorem mlL_28 : Cond.methodLink R_law 28 yX11_proof ∈ gtbl := gtbl_of 523 (by decide +kernel) rfl
theorem mlL_32 : Cond.methodLink R_law 32 yX12_proof ∈ gtbl := gtbl_of 1416 (by decide +kernel) rfl
theorem mlL_33 : Cond.methodLink R_law 33 yX11_law ∈ gtbl := gtbl_of 695 (by decide +kernel) rfl
theorem mlL_36 : Cond.methodLink R_law 36 yX12_law ∈ gtbl := gtbl_of 1524 (by decide +kernel) rfl
theorem mlL_37 : Cond.methodLink R_law 37 yX11_line ∈ gtbl := gtbl_of 777 (by decide +kernel) rfl
theorem mlL_41 : Cond.methodLink R_law 41 yX12_line ∈ gtbl := gtbl_of 1452 (by decide +kernel) rfl
theorem mlL_42 : Cond.methodLink R_law 42 yX11_wrong ∈ gtbl := gtbl_of 808 (by decide +kernel) rfl
theorem mlL_46 : Cond.methodLink R_law 46 yX12_wrong ∈ gtbl := gtbl_of 1487 (by decide +kernel) rfl
theorem mlL_47 : Cond.methodLink R_law 47 yX11_untrue ∈ gtbl := gtbl_of 818 (by decide +kernel) rfl
theorem mlL_50 : Cond.methodLink R_law 50 yX12_untrue ∈ gtbl := gtbl_of 1491 (by decide +kernel) rfl
theorem mlL_51 : Cond.methodLink R_law 51 yX11_slip ∈ gtbl := gtbl_of 826 (by decide +kernel) rfl
theorem mlL_54 : Cond.methodLink R_law 54 yX12_slip ∈ gtbl := gtbl_of 1495 (by decide +kernel) rfl
theorem mlL_55 : Cond.methodLink R_law 55 yX11_honest ∈ gtbl := gtbl_of 840 (by decide +kernel) rfl
theorem mlL_58 : Cond.methodLink R_law 58 yX12_honest ∈ gtbl := gtbl_of 1507 (by decide +kernel) rfl
theorem mlL_59 : Cond.methodLink R_law 59 yX11_mended ∈ gtbl := gtbl_of 850 (by decide +kernel) rfl
theorem mlL_62 : Cond.methodLink R_law 62 yX12_mended ∈ gtbl := gtbl_of 1511 (by decide +kernel) rfl
theorem mlL_63 : Cond.methodLink R_law 63 yX11_referred ∈ gtbl := gtbl_of 866 (by decide +kernel) rfl
theorem mlL_66 : Cond.methodLink R_law 66 yX12_referred ∈ gtbl := gtbl_of 1516 (by decide +kernel) rfl
theorem mlL_67 : Cond.methodLink R_law 67 yX11_reads ∈ gtbl := gtbl_of 875 (by decide +kernel) rfl
theorem mlL_70 : Cond.methodLink R_law 70 yX12_reads ∈ gtbl := gtbl_of 1591 (by decide +kernel) rfl
theorem mlL_71 : Cond.methodLink R_law 71 yX11_hidden ∈ gtbl := gtbl_of 932 (by decide +kernel) rfl
theorem mlL_74 : Cond.methodLink R_law 74 yX12_hidden ∈ gtbl := gtbl_of 1628 (by decide +kernel) rfl
theorem mlL_75 : Cond.methodLink R_law 75 yX11_unread ∈ gtbl := gtbl_of 947 (by decide +kernel) rfl
theorem mlL_78 : Cond.methodLink R_law 78 yX12_unread ∈ gtbl := gtbl_of 1637 (by decide +kernel) rfl
theorem mlL_79 : Cond.methodLink R_law 79 yX11_readers ∈ gtbl := gtbl_of 955 (by decide +kernel) rfl
theorem mlL_82 : Cond.methodLink R_law 82 yX12_readers ∈ gtbl := gtbl_of 1645 (by decide +kernel) rfl
theorem mlL_83 : Cond.methodLink R_law 83 yX11_blind ∈ gtbl := gtbl_of 963 (by decide +kernel) rfl
theorem mlL_86 : Cond.methodLink R_law 86 yX12_blind ∈ gtbl := gtbl_of 1656 (by decide +kernel) rfl
theorem mlL_87 : Cond.methodLink R_law 87 yX11_cancel ∈ gtbl := gtbl_of 967 (by decide +kernel) rfl
theorem mlL_90 : Cond.methodLink R_law 90 yX12_cancel ∈ gtbl := gtbl_of 1660 (by decide +kernel) rfl
theorem mlL_91 : Cond.methodLink R_law 91 yX11_stands ∈ gtbl := gtbl_of 1001 (by decide +kernel) rfl
theorem mlL_94 : Cond.methodLink R_law 94 yX12_stands ∈ gtbl := gtbl_of 1668 (by decide +kernel) rfl
theorem mlL_95 : Cond.methodLink R_law 95 yX11_anew ∈ gtbl := gtbl_of 1006 (by decide +kernel) rfl
theorem mlL_99 : Cond.methodLink R_law 99 yX12_anew ∈ gtbl := gtbl_of 1680 (by decide +kernel) rfl
theorem mlL_100 : Cond.methodLink R_law 100 yX11_added ∈ gtbl := gtbl_of 1049 (by decide +kernel) rfl
theorem mlL_103 : Cond.methodLink R_law 103 yX12_added ∈ gtbl := gtbl_of 1684 (by decide +kernel) rfl
theorem mlL_104 : Cond.methodLink R_law 104 yX11_order ∈ gtbl := gtbl_of 1083 (by decide +kernel) rfl
theorem mlL_108 : Cond.methodLink R_law 108 yX12_order ∈ gtbl := gtbl_of 1696 (by decide +kernel) rfl
theorem mlL_109 : Cond.methodLink R_law 109 yX11_seed ∈ gtbl := gtbl_of 1112 (by decide +kernel) rfl
theorem mlL_112 : Cond.methodLink R_law 112 yX12_seed ∈ gtbl := gtbl_of 1712 (by decide +kernel) rfl
theorem mlL_113 : Cond.methodLink R_law 113 yX11_copied ∈ gtbl := gtbl_of 1117 (by decide +kernel) rfl
theorem mlL_116 : Cond.methodLink R_law 116 yX12_copied ∈ gtbl := gtbl_of 1717 (by decide +kernel) rfl
theorem mlL_117 : Cond.methodLink R_law 117 yX11_author ∈ gtbl := gtbl_of 1131 (by decide +kernel) rfl
theorem mlL_120 : Cond.methodLink R_law 120 yX12_author ∈ gtbl := gtbl_of 1726 (by decide +kernel) rfl
theorem mlL_121 : Cond.methodLink R_law 121 yX11_corrects ∈ gtbl := gtbl_of 1155 (by decide +kernel) rfl
theorem mlL_124 : Cond.methodLink R_law 124 yX12_corrects ∈ gtbl := gtbl_of 1734 (by decide +kernel) rfl
theorem mlL_125 : Cond.methodLink R_law 125 yX11_points ∈ gtbl := gtbl_of 1163 (by decide +kernel) rfl
theorem mlL_128 : Cond.methodLink R_law 128 yX12_points ∈ gtbl := gtbl_of 1741 (by decide +kernel) rfl
theorem mlL_129 : Cond.methodLink R_law 129 yX11_keep ∈ gtbl := gtbl_of 1167 (by decide +kernel) rfl
theorem mlL_132 : Cond.methodLink R_law 132 yX12_keep ∈ gtbl := gtbl_of 1745 (by decide +kernel) rfl
theorem mlL_133 : Cond.methodLink R_law 133 yX11_undo ∈ gtbl := gtbl_of 1177 (by decide +kernel) rfl
theorem mlL_137 : Cond.methodLink R_law 137 yX12_undo ∈ gtbl := gtbl_of 1752 (by decide +kernel) rfl
theorem mlL_138 : Cond.methodLink R_law 138 yX11_check ∈ gtbl := gtbl_of 1181 (by decide +kernel) rfl
theorem mlL_141 : Cond.methodLink R_law 141 yX12_check ∈ gtbl := gtbl_of 1756 (by decide +kernel) rfl
theorem mlL_142 : Cond.methodLink R_law 142 yX11_count ∈ gtbl := gtbl_of 1190 (by decide +kernel) rfl
theorem mlL_145 : Cond.methodLink R_law 145 yX12_count ∈ gtbl := gtbl_of 1764 (by decide +kernel) rfl
