/-! the law: its rows, its links (printed by wip/gen/law.py) -/
theorem dL_0 : decode code 0 = .ok (.new 7, 3) := by decide +kernel
theorem dL_3 : decode code 3 = .ok (.dup, 1) := by decide +kernel
theorem dL_4 : decode code 4 = .ok (.invokespecial 9, 3) := by decide +kernel
theorem dL_7 : decode code 7 = .ok (.astore_n 1, 1) := by decide +kernel
theorem dL_8 : decode code 8 = .ok (.new 10, 3) := by decide +kernel
theorem dL_11 : decode code 11 = .ok (.dup, 1) := by decide +kernel
theorem dL_12 : decode code 12 = .ok (.invokespecial 12, 3) := by decide +kernel
theorem dL_15 : decode code 15 = .ok (.astore_n 2, 1) := by decide +kernel
theorem dL_16 : decode code 16 = .ok (.iconst 0, 1) := by decide +kernel
theorem dL_17 : decode code 17 = .ok (.istore_n 3, 1) := by decide +kernel
theorem dL_18 : decode code 18 = .ok (.iload_n 3, 1) := by decide +kernel
theorem dL_19 : decode code 19 = .ok (.aload_n 0, 1) := by decide +kernel
theorem dL_20 : decode code 20 = .ok (.arraylength, 1) := by decide +kernel
theorem dL_21 : decode code 21 = .ok (.bipush 6, 2) := by decide +kernel
theorem dL_23 : decode code 23 = .ok (.isub, 1) := by decide +kernel
theorem dL_24 : decode code 24 = .ok (.if_icmp .gt 1030, 3) := by decide +kernel
theorem dL_27 : decode code 27 = .ok (.aload_n 0, 1) := by decide +kernel
theorem dL_28 : decode code 28 = .ok (.iload_n 3, 1) := by decide +kernel
theorem dL_29 : decode code 29 = .ok (.iaload, 1) := by decide +kernel
theorem dL_30 : decode code 30 = .ok (.bipush 31, 2) := by decide +kernel
theorem dL_32 : decode code 32 = .ok (.iand, 1) := by decide +kernel
theorem dL_33 : decode code 33 = .ok (.tableswitch 1015 0 28 #[131, 184, 207, 260, 293, 326, 349, 362, 375, 398, 421, 454, 487, 510, 523, 546, 589, 622, 665, 698, 762, 821, 834, 857, 870, 903, 946, 969, 992], 131) := by decide +kernel
theorem dL_164 : decode code 164 = .ok (.aload_n 1, 1) := by decide +kernel
theorem dL_165 : decode code 165 = .ok (.aload_n 0, 1) := by decide +kernel
theorem dL_166 : decode code 166 = .ok (.iload_n 3, 1) := by decide +kernel
theorem dL_167 : decode code 167 = .ok (.iconst 1, 1) := by decide +kernel
theorem dL_168 : decode code 168 = .ok (.iadd, 1) := by decide +kernel
theorem dL_169 : decode code 169 = .ok (.iaload, 1) := by decide +kernel
theorem dL_170 : decode code 170 = .ok (.aload_n 0, 1) := by decide +kernel
theorem dL_171 : decode code 171 = .ok (.iload_n 3, 1) := by decide +kernel
theorem dL_172 : decode code 172 = .ok (.iconst 2, 1) := by decide +kernel
theorem dL_173 : decode code 173 = .ok (.iadd, 1) := by decide +kernel
theorem dL_174 : decode code 174 = .ok (.iaload, 1) := by decide +kernel
theorem dL_175 : decode code 175 = .ok (.aload_n 0, 1) := by decide +kernel
theorem dL_176 : decode code 176 = .ok (.iload_n 3, 1) := by decide +kernel
theorem dL_177 : decode code 177 = .ok (.iconst 3, 1) := by decide +kernel
theorem dL_178 : decode code 178 = .ok (.iadd, 1) := by decide +kernel
theorem dL_179 : decode code 179 = .ok (.iaload, 1) := by decide +kernel
theorem dL_180 : decode code 180 = .ok (.aload_n 0, 1) := by decide +kernel
theorem dL_181 : decode code 181 = .ok (.iload_n 3, 1) := by decide +kernel
theorem dL_182 : decode code 182 = .ok (.iconst 4, 1) := by decide +kernel
theorem dL_183 : decode code 183 = .ok (.iadd, 1) := by decide +kernel
theorem dL_184 : decode code 184 = .ok (.iaload, 1) := by decide +kernel
theorem dL_185 : decode code 185 = .ok (.invokevirtual 13, 3) := by decide +kernel
theorem dL_188 : decode code 188 = .ok (.aload_n 2, 1) := by decide +kernel
theorem dL_189 : decode code 189 = .ok (.aload_n 0, 1) := by decide +kernel
theorem dL_190 : decode code 190 = .ok (.iload_n 3, 1) := by decide +kernel
theorem dL_191 : decode code 191 = .ok (.iconst 1, 1) := by decide +kernel
theorem dL_192 : decode code 192 = .ok (.iadd, 1) := by decide +kernel
theorem dL_193 : decode code 193 = .ok (.iaload, 1) := by decide +kernel
theorem dL_194 : decode code 194 = .ok (.aload_n 0, 1) := by decide +kernel
theorem dL_195 : decode code 195 = .ok (.iload_n 3, 1) := by decide +kernel
theorem dL_196 : decode code 196 = .ok (.iconst 2, 1) := by decide +kernel
theorem dL_197 : decode code 197 = .ok (.iadd, 1) := by decide +kernel
theorem dL_198 : decode code 198 = .ok (.iaload, 1) := by decide +kernel
theorem dL_199 : decode code 199 = .ok (.aload_n 0, 1) := by decide +kernel
theorem dL_200 : decode code 200 = .ok (.iload_n 3, 1) := by decide +kernel
theorem dL_201 : decode code 201 = .ok (.iconst 3, 1) := by decide +kernel
theorem dL_202 : decode code 202 = .ok (.iadd, 1) := by decide +kernel
theorem dL_203 : decode code 203 = .ok (.iaload, 1) := by decide +kernel
theorem dL_204 : decode code 204 = .ok (.aload_n 0, 1) := by decide +kernel
theorem dL_205 : decode code 205 = .ok (.iload_n 3, 1) := by decide +kernel
theorem dL_206 : decode code 206 = .ok (.iconst 4, 1) := by decide +kernel
theorem dL_207 : decode code 207 = .ok (.iadd, 1) := by decide +kernel
theorem dL_208 : decode code 208 = .ok (.iaload, 1) := by decide +kernel
theorem dL_209 : decode code 209 = .ok (.invokevirtual 17, 3) := by decide +kernel
theorem dL_212 : decode code 212 = .ok (.if_icmp .eq 836, 3) := by decide +kernel
theorem dL_215 : decode code 215 = .ok (.iconst 0, 1) := by decide +kernel
theorem dL_216 : decode code 216 = .ok (.ireturn, 1) := by decide +kernel
theorem dL_217 : decode code 217 = .ok (.aload_n 1, 1) := by decide +kernel
theorem dL_218 : decode code 218 = .ok (.aload_n 0, 1) := by decide +kernel
theorem dL_219 : decode code 219 = .ok (.iload_n 3, 1) := by decide +kernel
theorem dL_220 : decode code 220 = .ok (.iconst 1, 1) := by decide +kernel
theorem dL_221 : decode code 221 = .ok (.iadd, 1) := by decide +kernel
theorem dL_222 : decode code 222 = .ok (.iaload, 1) := by decide +kernel
theorem dL_223 : decode code 223 = .ok (.invokevirtual 18, 3) := by decide +kernel
theorem dL_226 : decode code 226 = .ok (.aload_n 2, 1) := by decide +kernel
theorem dL_227 : decode code 227 = .ok (.aload_n 0, 1) := by decide +kernel
theorem dL_228 : decode code 228 = .ok (.iload_n 3, 1) := by decide +kernel
theorem dL_229 : decode code 229 = .ok (.iconst 1, 1) := by decide +kernel
theorem dL_230 : decode code 230 = .ok (.iadd, 1) := by decide +kernel
theorem dL_231 : decode code 231 = .ok (.iaload, 1) := by decide +kernel
theorem dL_232 : decode code 232 = .ok (.invokevirtual 22, 3) := by decide +kernel
theorem dL_235 : decode code 235 = .ok (.if_icmp .eq 813, 3) := by decide +kernel
theorem dL_238 : decode code 238 = .ok (.iconst 0, 1) := by decide +kernel
theorem dL_239 : decode code 239 = .ok (.ireturn, 1) := by decide +kernel
theorem dL_240 : decode code 240 = .ok (.aload_n 1, 1) := by decide +kernel
theorem dL_241 : decode code 241 = .ok (.aload_n 0, 1) := by decide +kernel
theorem dL_242 : decode code 242 = .ok (.iload_n 3, 1) := by decide +kernel
theorem dL_243 : decode code 243 = .ok (.iconst 1, 1) := by decide +kernel
theorem dL_244 : decode code 244 = .ok (.iadd, 1) := by decide +kernel
theorem dL_245 : decode code 245 = .ok (.iaload, 1) := by decide +kernel
theorem dL_246 : decode code 246 = .ok (.aload_n 0, 1) := by decide +kernel
theorem dL_247 : decode code 247 = .ok (.iload_n 3, 1) := by decide +kernel
theorem dL_248 : decode code 248 = .ok (.iconst 2, 1) := by decide +kernel
theorem dL_249 : decode code 249 = .ok (.iadd, 1) := by decide +kernel
theorem dL_250 : decode code 250 = .ok (.iaload, 1) := by decide +kernel
theorem dL_251 : decode code 251 = .ok (.aload_n 0, 1) := by decide +kernel
theorem dL_252 : decode code 252 = .ok (.iload_n 3, 1) := by decide +kernel
theorem dL_253 : decode code 253 = .ok (.iconst 3, 1) := by decide +kernel
theorem dL_254 : decode code 254 = .ok (.iadd, 1) := by decide +kernel
theorem dL_255 : decode code 255 = .ok (.iaload, 1) := by decide +kernel
theorem dL_256 : decode code 256 = .ok (.aload_n 0, 1) := by decide +kernel
theorem dL_257 : decode code 257 = .ok (.iload_n 3, 1) := by decide +kernel
theorem dL_258 : decode code 258 = .ok (.iconst 4, 1) := by decide +kernel
theorem dL_259 : decode code 259 = .ok (.iadd, 1) := by decide +kernel
theorem dL_260 : decode code 260 = .ok (.iaload, 1) := by decide +kernel
theorem dL_261 : decode code 261 = .ok (.invokevirtual 23, 3) := by decide +kernel
theorem dL_264 : decode code 264 = .ok (.aload_n 2, 1) := by decide +kernel
theorem dL_265 : decode code 265 = .ok (.aload_n 0, 1) := by decide +kernel
theorem dL_266 : decode code 266 = .ok (.iload_n 3, 1) := by decide +kernel
theorem dL_267 : decode code 267 = .ok (.iconst 1, 1) := by decide +kernel
theorem dL_268 : decode code 268 = .ok (.iadd, 1) := by decide +kernel
theorem dL_269 : decode code 269 = .ok (.iaload, 1) := by decide +kernel
theorem dL_270 : decode code 270 = .ok (.aload_n 0, 1) := by decide +kernel
theorem dL_271 : decode code 271 = .ok (.iload_n 3, 1) := by decide +kernel
theorem dL_272 : decode code 272 = .ok (.iconst 2, 1) := by decide +kernel
theorem dL_273 : decode code 273 = .ok (.iadd, 1) := by decide +kernel
theorem dL_274 : decode code 274 = .ok (.iaload, 1) := by decide +kernel
theorem dL_275 : decode code 275 = .ok (.aload_n 0, 1) := by decide +kernel
theorem dL_276 : decode code 276 = .ok (.iload_n 3, 1) := by decide +kernel
theorem dL_277 : decode code 277 = .ok (.iconst 3, 1) := by decide +kernel
theorem dL_278 : decode code 278 = .ok (.iadd, 1) := by decide +kernel
theorem dL_279 : decode code 279 = .ok (.iaload, 1) := by decide +kernel
theorem dL_280 : decode code 280 = .ok (.aload_n 0, 1) := by decide +kernel
theorem dL_281 : decode code 281 = .ok (.iload_n 3, 1) := by decide +kernel
theorem dL_282 : decode code 282 = .ok (.iconst 4, 1) := by decide +kernel
theorem dL_283 : decode code 283 = .ok (.iadd, 1) := by decide +kernel
theorem dL_284 : decode code 284 = .ok (.iaload, 1) := by decide +kernel
theorem dL_285 : decode code 285 = .ok (.invokevirtual 26, 3) := by decide +kernel
theorem dL_288 : decode code 288 = .ok (.if_icmp .eq 760, 3) := by decide +kernel
theorem dL_291 : decode code 291 = .ok (.iconst 0, 1) := by decide +kernel
theorem dL_292 : decode code 292 = .ok (.ireturn, 1) := by decide +kernel
theorem dL_293 : decode code 293 = .ok (.aload_n 1, 1) := by decide +kernel
theorem dL_294 : decode code 294 = .ok (.aload_n 0, 1) := by decide +kernel
theorem dL_295 : decode code 295 = .ok (.iload_n 3, 1) := by decide +kernel
theorem dL_296 : decode code 296 = .ok (.iconst 1, 1) := by decide +kernel
theorem dL_297 : decode code 297 = .ok (.iadd, 1) := by decide +kernel
theorem dL_298 : decode code 298 = .ok (.iaload, 1) := by decide +kernel
theorem dL_299 : decode code 299 = .ok (.aload_n 0, 1) := by decide +kernel
theorem dL_300 : decode code 300 = .ok (.iload_n 3, 1) := by decide +kernel
theorem dL_301 : decode code 301 = .ok (.iconst 2, 1) := by decide +kernel
theorem dL_302 : decode code 302 = .ok (.iadd, 1) := by decide +kernel
theorem dL_303 : decode code 303 = .ok (.iaload, 1) := by decide +kernel
theorem dL_304 : decode code 304 = .ok (.invokevirtual 27, 3) := by decide +kernel
theorem dL_307 : decode code 307 = .ok (.aload_n 2, 1) := by decide +kernel
theorem dL_308 : decode code 308 = .ok (.aload_n 0, 1) := by decide +kernel
theorem dL_309 : decode code 309 = .ok (.iload_n 3, 1) := by decide +kernel
theorem dL_310 : decode code 310 = .ok (.iconst 1, 1) := by decide +kernel
theorem dL_311 : decode code 311 = .ok (.iadd, 1) := by decide +kernel
theorem dL_312 : decode code 312 = .ok (.iaload, 1) := by decide +kernel
theorem dL_313 : decode code 313 = .ok (.aload_n 0, 1) := by decide +kernel
theorem dL_314 : decode code 314 = .ok (.iload_n 3, 1) := by decide +kernel
theorem dL_315 : decode code 315 = .ok (.iconst 2, 1) := by decide +kernel
theorem dL_316 : decode code 316 = .ok (.iadd, 1) := by decide +kernel
theorem dL_317 : decode code 317 = .ok (.iaload, 1) := by decide +kernel
theorem dL_318 : decode code 318 = .ok (.invokevirtual 31, 3) := by decide +kernel
theorem dL_321 : decode code 321 = .ok (.if_icmp .eq 727, 3) := by decide +kernel
theorem dL_324 : decode code 324 = .ok (.iconst 0, 1) := by decide +kernel
theorem dL_325 : decode code 325 = .ok (.ireturn, 1) := by decide +kernel
theorem dL_326 : decode code 326 = .ok (.aload_n 1, 1) := by decide +kernel
theorem dL_327 : decode code 327 = .ok (.aload_n 0, 1) := by decide +kernel
theorem dL_328 : decode code 328 = .ok (.iload_n 3, 1) := by decide +kernel
theorem dL_329 : decode code 329 = .ok (.iconst 1, 1) := by decide +kernel
theorem dL_330 : decode code 330 = .ok (.iadd, 1) := by decide +kernel
theorem dL_331 : decode code 331 = .ok (.iaload, 1) := by decide +kernel
theorem dL_332 : decode code 332 = .ok (.aload_n 0, 1) := by decide +kernel
theorem dL_333 : decode code 333 = .ok (.iload_n 3, 1) := by decide +kernel
theorem dL_334 : decode code 334 = .ok (.iconst 2, 1) := by decide +kernel
theorem dL_335 : decode code 335 = .ok (.iadd, 1) := by decide +kernel
theorem dL_336 : decode code 336 = .ok (.iaload, 1) := by decide +kernel
theorem dL_337 : decode code 337 = .ok (.invokevirtual 32, 3) := by decide +kernel
theorem dL_340 : decode code 340 = .ok (.aload_n 2, 1) := by decide +kernel
theorem dL_341 : decode code 341 = .ok (.aload_n 0, 1) := by decide +kernel
theorem dL_342 : decode code 342 = .ok (.iload_n 3, 1) := by decide +kernel
theorem dL_343 : decode code 343 = .ok (.iconst 1, 1) := by decide +kernel
theorem dL_344 : decode code 344 = .ok (.iadd, 1) := by decide +kernel
theorem dL_345 : decode code 345 = .ok (.iaload, 1) := by decide +kernel
theorem dL_346 : decode code 346 = .ok (.aload_n 0, 1) := by decide +kernel
theorem dL_347 : decode code 347 = .ok (.iload_n 3, 1) := by decide +kernel
theorem dL_348 : decode code 348 = .ok (.iconst 2, 1) := by decide +kernel
theorem dL_349 : decode code 349 = .ok (.iadd, 1) := by decide +kernel
theorem dL_350 : decode code 350 = .ok (.iaload, 1) := by decide +kernel
theorem dL_351 : decode code 351 = .ok (.invokevirtual 35, 3) := by decide +kernel
theorem dL_354 : decode code 354 = .ok (.if_icmp .eq 694, 3) := by decide +kernel
theorem dL_357 : decode code 357 = .ok (.iconst 0, 1) := by decide +kernel
theorem dL_358 : decode code 358 = .ok (.ireturn, 1) := by decide +kernel
theorem dL_359 : decode code 359 = .ok (.aload_n 1, 1) := by decide +kernel
theorem dL_360 : decode code 360 = .ok (.aload_n 0, 1) := by decide +kernel
theorem dL_361 : decode code 361 = .ok (.iload_n 3, 1) := by decide +kernel
theorem dL_362 : decode code 362 = .ok (.iconst 1, 1) := by decide +kernel
theorem dL_363 : decode code 363 = .ok (.iadd, 1) := by decide +kernel
theorem dL_364 : decode code 364 = .ok (.iaload, 1) := by decide +kernel
theorem dL_365 : decode code 365 = .ok (.invokevirtual 36, 3) := by decide +kernel
theorem dL_368 : decode code 368 = .ok (.aload_n 2, 1) := by decide +kernel
theorem dL_369 : decode code 369 = .ok (.aload_n 0, 1) := by decide +kernel
theorem dL_370 : decode code 370 = .ok (.iload_n 3, 1) := by decide +kernel
theorem dL_371 : decode code 371 = .ok (.iconst 1, 1) := by decide +kernel
theorem dL_372 : decode code 372 = .ok (.iadd, 1) := by decide +kernel
theorem dL_373 : decode code 373 = .ok (.iaload, 1) := by decide +kernel
theorem dL_374 : decode code 374 = .ok (.invokevirtual 39, 3) := by decide +kernel
theorem dL_377 : decode code 377 = .ok (.if_icmp .eq 671, 3) := by decide +kernel
theorem dL_380 : decode code 380 = .ok (.iconst 0, 1) := by decide +kernel
theorem dL_381 : decode code 381 = .ok (.ireturn, 1) := by decide +kernel
theorem dL_382 : decode code 382 = .ok (.aload_n 1, 1) := by decide +kernel
theorem dL_383 : decode code 383 = .ok (.invokevirtual 40, 3) := by decide +kernel
theorem dL_386 : decode code 386 = .ok (.aload_n 2, 1) := by decide +kernel
theorem dL_387 : decode code 387 = .ok (.invokevirtual 44, 3) := by decide +kernel
theorem dL_390 : decode code 390 = .ok (.if_icmp .eq 658, 3) := by decide +kernel
theorem dL_393 : decode code 393 = .ok (.iconst 0, 1) := by decide +kernel
theorem dL_394 : decode code 394 = .ok (.ireturn, 1) := by decide +kernel
theorem dL_395 : decode code 395 = .ok (.aload_n 1, 1) := by decide +kernel
theorem dL_396 : decode code 396 = .ok (.invokevirtual 45, 3) := by decide +kernel
theorem dL_399 : decode code 399 = .ok (.aload_n 2, 1) := by decide +kernel
theorem dL_400 : decode code 400 = .ok (.invokevirtual 48, 3) := by decide +kernel
theorem dL_403 : decode code 403 = .ok (.if_icmp .eq 645, 3) := by decide +kernel
theorem dL_406 : decode code 406 = .ok (.iconst 0, 1) := by decide +kernel
theorem dL_407 : decode code 407 = .ok (.ireturn, 1) := by decide +kernel
theorem dL_408 : decode code 408 = .ok (.aload_n 1, 1) := by decide +kernel
theorem dL_409 : decode code 409 = .ok (.aload_n 0, 1) := by decide +kernel
theorem dL_410 : decode code 410 = .ok (.iload_n 3, 1) := by decide +kernel
theorem dL_411 : decode code 411 = .ok (.iconst 1, 1) := by decide +kernel
theorem dL_412 : decode code 412 = .ok (.iadd, 1) := by decide +kernel
theorem dL_413 : decode code 413 = .ok (.iaload, 1) := by decide +kernel
theorem dL_414 : decode code 414 = .ok (.invokevirtual 49, 3) := by decide +kernel
theorem dL_417 : decode code 417 = .ok (.aload_n 2, 1) := by decide +kernel
theorem dL_418 : decode code 418 = .ok (.aload_n 0, 1) := by decide +kernel
theorem dL_419 : decode code 419 = .ok (.iload_n 3, 1) := by decide +kernel
theorem dL_420 : decode code 420 = .ok (.iconst 1, 1) := by decide +kernel
theorem dL_421 : decode code 421 = .ok (.iadd, 1) := by decide +kernel
theorem dL_422 : decode code 422 = .ok (.iaload, 1) := by decide +kernel
theorem dL_423 : decode code 423 = .ok (.invokevirtual 52, 3) := by decide +kernel
theorem dL_426 : decode code 426 = .ok (.if_icmp .eq 622, 3) := by decide +kernel
theorem dL_429 : decode code 429 = .ok (.iconst 0, 1) := by decide +kernel
theorem dL_430 : decode code 430 = .ok (.ireturn, 1) := by decide +kernel
theorem dL_431 : decode code 431 = .ok (.aload_n 1, 1) := by decide +kernel
theorem dL_432 : decode code 432 = .ok (.aload_n 0, 1) := by decide +kernel
theorem dL_433 : decode code 433 = .ok (.iload_n 3, 1) := by decide +kernel
theorem dL_434 : decode code 434 = .ok (.iconst 1, 1) := by decide +kernel
theorem dL_435 : decode code 435 = .ok (.iadd, 1) := by decide +kernel
theorem dL_436 : decode code 436 = .ok (.iaload, 1) := by decide +kernel
theorem dL_437 : decode code 437 = .ok (.invokevirtual 53, 3) := by decide +kernel
theorem dL_440 : decode code 440 = .ok (.aload_n 2, 1) := by decide +kernel
theorem dL_441 : decode code 441 = .ok (.aload_n 0, 1) := by decide +kernel
theorem dL_442 : decode code 442 = .ok (.iload_n 3, 1) := by decide +kernel
theorem dL_443 : decode code 443 = .ok (.iconst 1, 1) := by decide +kernel
theorem dL_444 : decode code 444 = .ok (.iadd, 1) := by decide +kernel
theorem dL_445 : decode code 445 = .ok (.iaload, 1) := by decide +kernel
theorem dL_446 : decode code 446 = .ok (.invokevirtual 56, 3) := by decide +kernel
theorem dL_449 : decode code 449 = .ok (.if_icmp .eq 599, 3) := by decide +kernel
theorem dL_452 : decode code 452 = .ok (.iconst 0, 1) := by decide +kernel
theorem dL_453 : decode code 453 = .ok (.ireturn, 1) := by decide +kernel
theorem dL_454 : decode code 454 = .ok (.aload_n 1, 1) := by decide +kernel
theorem dL_455 : decode code 455 = .ok (.aload_n 0, 1) := by decide +kernel
theorem dL_456 : decode code 456 = .ok (.iload_n 3, 1) := by decide +kernel
theorem dL_457 : decode code 457 = .ok (.iconst 1, 1) := by decide +kernel
theorem dL_458 : decode code 458 = .ok (.iadd, 1) := by decide +kernel
theorem dL_459 : decode code 459 = .ok (.iaload, 1) := by decide +kernel
theorem dL_460 : decode code 460 = .ok (.aload_n 0, 1) := by decide +kernel
theorem dL_461 : decode code 461 = .ok (.iload_n 3, 1) := by decide +kernel
theorem dL_462 : decode code 462 = .ok (.iconst 2, 1) := by decide +kernel
theorem dL_463 : decode code 463 = .ok (.iadd, 1) := by decide +kernel
theorem dL_464 : decode code 464 = .ok (.iaload, 1) := by decide +kernel
theorem dL_465 : decode code 465 = .ok (.invokevirtual 57, 3) := by decide +kernel
theorem dL_468 : decode code 468 = .ok (.aload_n 2, 1) := by decide +kernel
theorem dL_469 : decode code 469 = .ok (.aload_n 0, 1) := by decide +kernel
theorem dL_470 : decode code 470 = .ok (.iload_n 3, 1) := by decide +kernel
theorem dL_471 : decode code 471 = .ok (.iconst 1, 1) := by decide +kernel
theorem dL_472 : decode code 472 = .ok (.iadd, 1) := by decide +kernel
theorem dL_473 : decode code 473 = .ok (.iaload, 1) := by decide +kernel
theorem dL_474 : decode code 474 = .ok (.aload_n 0, 1) := by decide +kernel
theorem dL_475 : decode code 475 = .ok (.iload_n 3, 1) := by decide +kernel
theorem dL_476 : decode code 476 = .ok (.iconst 2, 1) := by decide +kernel
theorem dL_477 : decode code 477 = .ok (.iadd, 1) := by decide +kernel
theorem dL_478 : decode code 478 = .ok (.iaload, 1) := by decide +kernel
theorem dL_479 : decode code 479 = .ok (.invokevirtual 60, 3) := by decide +kernel
theorem dL_482 : decode code 482 = .ok (.if_icmp .eq 566, 3) := by decide +kernel
theorem dL_485 : decode code 485 = .ok (.iconst 0, 1) := by decide +kernel
theorem dL_486 : decode code 486 = .ok (.ireturn, 1) := by decide +kernel
theorem dL_487 : decode code 487 = .ok (.aload_n 1, 1) := by decide +kernel
theorem dL_488 : decode code 488 = .ok (.aload_n 0, 1) := by decide +kernel
theorem dL_489 : decode code 489 = .ok (.iload_n 3, 1) := by decide +kernel
theorem dL_490 : decode code 490 = .ok (.iconst 1, 1) := by decide +kernel
theorem dL_491 : decode code 491 = .ok (.iadd, 1) := by decide +kernel
theorem dL_492 : decode code 492 = .ok (.iaload, 1) := by decide +kernel
theorem dL_493 : decode code 493 = .ok (.aload_n 0, 1) := by decide +kernel
theorem dL_494 : decode code 494 = .ok (.iload_n 3, 1) := by decide +kernel
theorem dL_495 : decode code 495 = .ok (.iconst 2, 1) := by decide +kernel
theorem dL_496 : decode code 496 = .ok (.iadd, 1) := by decide +kernel
theorem dL_497 : decode code 497 = .ok (.iaload, 1) := by decide +kernel
theorem dL_498 : decode code 498 = .ok (.invokevirtual 61, 3) := by decide +kernel
theorem dL_501 : decode code 501 = .ok (.aload_n 2, 1) := by decide +kernel
theorem dL_502 : decode code 502 = .ok (.aload_n 0, 1) := by decide +kernel
theorem dL_503 : decode code 503 = .ok (.iload_n 3, 1) := by decide +kernel
theorem dL_504 : decode code 504 = .ok (.iconst 1, 1) := by decide +kernel
theorem dL_505 : decode code 505 = .ok (.iadd, 1) := by decide +kernel
theorem dL_506 : decode code 506 = .ok (.iaload, 1) := by decide +kernel
theorem dL_507 : decode code 507 = .ok (.aload_n 0, 1) := by decide +kernel
theorem dL_508 : decode code 508 = .ok (.iload_n 3, 1) := by decide +kernel
theorem dL_509 : decode code 509 = .ok (.iconst 2, 1) := by decide +kernel
theorem dL_510 : decode code 510 = .ok (.iadd, 1) := by decide +kernel
theorem dL_511 : decode code 511 = .ok (.iaload, 1) := by decide +kernel
theorem dL_512 : decode code 512 = .ok (.invokevirtual 64, 3) := by decide +kernel
theorem dL_515 : decode code 515 = .ok (.if_icmp .eq 533, 3) := by decide +kernel
theorem dL_518 : decode code 518 = .ok (.iconst 0, 1) := by decide +kernel
theorem dL_519 : decode code 519 = .ok (.ireturn, 1) := by decide +kernel
theorem dL_520 : decode code 520 = .ok (.aload_n 1, 1) := by decide +kernel
theorem dL_521 : decode code 521 = .ok (.aload_n 0, 1) := by decide +kernel
theorem dL_522 : decode code 522 = .ok (.iload_n 3, 1) := by decide +kernel
theorem dL_523 : decode code 523 = .ok (.iconst 1, 1) := by decide +kernel
theorem dL_524 : decode code 524 = .ok (.iadd, 1) := by decide +kernel
theorem dL_525 : decode code 525 = .ok (.iaload, 1) := by decide +kernel
theorem dL_526 : decode code 526 = .ok (.invokevirtual 65, 3) := by decide +kernel
theorem dL_529 : decode code 529 = .ok (.aload_n 2, 1) := by decide +kernel
theorem dL_530 : decode code 530 = .ok (.aload_n 0, 1) := by decide +kernel
theorem dL_531 : decode code 531 = .ok (.iload_n 3, 1) := by decide +kernel
theorem dL_532 : decode code 532 = .ok (.iconst 1, 1) := by decide +kernel
theorem dL_533 : decode code 533 = .ok (.iadd, 1) := by decide +kernel
theorem dL_534 : decode code 534 = .ok (.iaload, 1) := by decide +kernel
theorem dL_535 : decode code 535 = .ok (.invokevirtual 68, 3) := by decide +kernel
theorem dL_538 : decode code 538 = .ok (.if_icmp .eq 510, 3) := by decide +kernel
theorem dL_541 : decode code 541 = .ok (.iconst 0, 1) := by decide +kernel
theorem dL_542 : decode code 542 = .ok (.ireturn, 1) := by decide +kernel
theorem dL_543 : decode code 543 = .ok (.aload_n 1, 1) := by decide +kernel
theorem dL_544 : decode code 544 = .ok (.invokevirtual 69, 3) := by decide +kernel
theorem dL_547 : decode code 547 = .ok (.aload_n 2, 1) := by decide +kernel
theorem dL_548 : decode code 548 = .ok (.invokevirtual 72, 3) := by decide +kernel
theorem dL_551 : decode code 551 = .ok (.if_icmp .eq 497, 3) := by decide +kernel
theorem dL_554 : decode code 554 = .ok (.iconst 0, 1) := by decide +kernel
theorem dL_555 : decode code 555 = .ok (.ireturn, 1) := by decide +kernel
theorem dL_556 : decode code 556 = .ok (.aload_n 1, 1) := by decide +kernel
theorem dL_557 : decode code 557 = .ok (.aload_n 0, 1) := by decide +kernel
theorem dL_558 : decode code 558 = .ok (.iload_n 3, 1) := by decide +kernel
theorem dL_559 : decode code 559 = .ok (.iconst 1, 1) := by decide +kernel
theorem dL_560 : decode code 560 = .ok (.iadd, 1) := by decide +kernel
theorem dL_561 : decode code 561 = .ok (.iaload, 1) := by decide +kernel
theorem dL_562 : decode code 562 = .ok (.invokevirtual 73, 3) := by decide +kernel
theorem dL_565 : decode code 565 = .ok (.aload_n 2, 1) := by decide +kernel
theorem dL_566 : decode code 566 = .ok (.aload_n 0, 1) := by decide +kernel
theorem dL_567 : decode code 567 = .ok (.iload_n 3, 1) := by decide +kernel
theorem dL_568 : decode code 568 = .ok (.iconst 1, 1) := by decide +kernel
theorem dL_569 : decode code 569 = .ok (.iadd, 1) := by decide +kernel
theorem dL_570 : decode code 570 = .ok (.iaload, 1) := by decide +kernel
theorem dL_571 : decode code 571 = .ok (.invokevirtual 76, 3) := by decide +kernel
theorem dL_574 : decode code 574 = .ok (.if_icmp .eq 474, 3) := by decide +kernel
theorem dL_577 : decode code 577 = .ok (.iconst 0, 1) := by decide +kernel
theorem dL_578 : decode code 578 = .ok (.ireturn, 1) := by decide +kernel
theorem dL_579 : decode code 579 = .ok (.aload_n 1, 1) := by decide +kernel
theorem dL_580 : decode code 580 = .ok (.aload_n 0, 1) := by decide +kernel
theorem dL_581 : decode code 581 = .ok (.iload_n 3, 1) := by decide +kernel
theorem dL_582 : decode code 582 = .ok (.iconst 1, 1) := by decide +kernel
theorem dL_583 : decode code 583 = .ok (.iadd, 1) := by decide +kernel
theorem dL_584 : decode code 584 = .ok (.iaload, 1) := by decide +kernel
theorem dL_585 : decode code 585 = .ok (.aload_n 0, 1) := by decide +kernel
theorem dL_586 : decode code 586 = .ok (.iload_n 3, 1) := by decide +kernel
theorem dL_587 : decode code 587 = .ok (.iconst 2, 1) := by decide +kernel
theorem dL_588 : decode code 588 = .ok (.iadd, 1) := by decide +kernel
theorem dL_589 : decode code 589 = .ok (.iaload, 1) := by decide +kernel
theorem dL_590 : decode code 590 = .ok (.aload_n 0, 1) := by decide +kernel
theorem dL_591 : decode code 591 = .ok (.iload_n 3, 1) := by decide +kernel
theorem dL_592 : decode code 592 = .ok (.iconst 3, 1) := by decide +kernel
theorem dL_593 : decode code 593 = .ok (.iadd, 1) := by decide +kernel
theorem dL_594 : decode code 594 = .ok (.iaload, 1) := by decide +kernel
theorem dL_595 : decode code 595 = .ok (.invokevirtual 77, 3) := by decide +kernel
theorem dL_598 : decode code 598 = .ok (.aload_n 2, 1) := by decide +kernel
theorem dL_599 : decode code 599 = .ok (.aload_n 0, 1) := by decide +kernel
theorem dL_600 : decode code 600 = .ok (.iload_n 3, 1) := by decide +kernel
theorem dL_601 : decode code 601 = .ok (.iconst 1, 1) := by decide +kernel
theorem dL_602 : decode code 602 = .ok (.iadd, 1) := by decide +kernel
theorem dL_603 : decode code 603 = .ok (.iaload, 1) := by decide +kernel
theorem dL_604 : decode code 604 = .ok (.aload_n 0, 1) := by decide +kernel
theorem dL_605 : decode code 605 = .ok (.iload_n 3, 1) := by decide +kernel
theorem dL_606 : decode code 606 = .ok (.iconst 2, 1) := by decide +kernel
theorem dL_607 : decode code 607 = .ok (.iadd, 1) := by decide +kernel
theorem dL_608 : decode code 608 = .ok (.iaload, 1) := by decide +kernel
theorem dL_609 : decode code 609 = .ok (.aload_n 0, 1) := by decide +kernel
theorem dL_610 : decode code 610 = .ok (.iload_n 3, 1) := by decide +kernel
theorem dL_611 : decode code 611 = .ok (.iconst 3, 1) := by decide +kernel
theorem dL_612 : decode code 612 = .ok (.iadd, 1) := by decide +kernel
theorem dL_613 : decode code 613 = .ok (.iaload, 1) := by decide +kernel
theorem dL_614 : decode code 614 = .ok (.invokevirtual 81, 3) := by decide +kernel
theorem dL_617 : decode code 617 = .ok (.if_icmp .eq 431, 3) := by decide +kernel
theorem dL_620 : decode code 620 = .ok (.iconst 0, 1) := by decide +kernel
theorem dL_621 : decode code 621 = .ok (.ireturn, 1) := by decide +kernel
theorem dL_622 : decode code 622 = .ok (.aload_n 1, 1) := by decide +kernel
theorem dL_623 : decode code 623 = .ok (.aload_n 0, 1) := by decide +kernel
theorem dL_624 : decode code 624 = .ok (.iload_n 3, 1) := by decide +kernel
theorem dL_625 : decode code 625 = .ok (.iconst 1, 1) := by decide +kernel
theorem dL_626 : decode code 626 = .ok (.iadd, 1) := by decide +kernel
theorem dL_627 : decode code 627 = .ok (.iaload, 1) := by decide +kernel
theorem dL_628 : decode code 628 = .ok (.aload_n 0, 1) := by decide +kernel
theorem dL_629 : decode code 629 = .ok (.iload_n 3, 1) := by decide +kernel
theorem dL_630 : decode code 630 = .ok (.iconst 2, 1) := by decide +kernel
theorem dL_631 : decode code 631 = .ok (.iadd, 1) := by decide +kernel
theorem dL_632 : decode code 632 = .ok (.iaload, 1) := by decide +kernel
theorem dL_633 : decode code 633 = .ok (.invokevirtual 82, 3) := by decide +kernel
theorem dL_636 : decode code 636 = .ok (.aload_n 2, 1) := by decide +kernel
theorem dL_637 : decode code 637 = .ok (.aload_n 0, 1) := by decide +kernel
theorem dL_638 : decode code 638 = .ok (.iload_n 3, 1) := by decide +kernel
theorem dL_639 : decode code 639 = .ok (.iconst 1, 1) := by decide +kernel
theorem dL_640 : decode code 640 = .ok (.iadd, 1) := by decide +kernel
theorem dL_641 : decode code 641 = .ok (.iaload, 1) := by decide +kernel
theorem dL_642 : decode code 642 = .ok (.aload_n 0, 1) := by decide +kernel
theorem dL_643 : decode code 643 = .ok (.iload_n 3, 1) := by decide +kernel
theorem dL_644 : decode code 644 = .ok (.iconst 2, 1) := by decide +kernel
theorem dL_645 : decode code 645 = .ok (.iadd, 1) := by decide +kernel
theorem dL_646 : decode code 646 = .ok (.iaload, 1) := by decide +kernel
theorem dL_647 : decode code 647 = .ok (.invokevirtual 85, 3) := by decide +kernel
theorem dL_650 : decode code 650 = .ok (.if_icmp .eq 398, 3) := by decide +kernel
theorem dL_653 : decode code 653 = .ok (.iconst 0, 1) := by decide +kernel
theorem dL_654 : decode code 654 = .ok (.ireturn, 1) := by decide +kernel
theorem dL_655 : decode code 655 = .ok (.aload_n 1, 1) := by decide +kernel
theorem dL_656 : decode code 656 = .ok (.aload_n 0, 1) := by decide +kernel
theorem dL_657 : decode code 657 = .ok (.iload_n 3, 1) := by decide +kernel
theorem dL_658 : decode code 658 = .ok (.iconst 1, 1) := by decide +kernel
theorem dL_659 : decode code 659 = .ok (.iadd, 1) := by decide +kernel
theorem dL_660 : decode code 660 = .ok (.iaload, 1) := by decide +kernel
theorem dL_661 : decode code 661 = .ok (.aload_n 0, 1) := by decide +kernel
theorem dL_662 : decode code 662 = .ok (.iload_n 3, 1) := by decide +kernel
theorem dL_663 : decode code 663 = .ok (.iconst 2, 1) := by decide +kernel
theorem dL_664 : decode code 664 = .ok (.iadd, 1) := by decide +kernel
theorem dL_665 : decode code 665 = .ok (.iaload, 1) := by decide +kernel
theorem dL_666 : decode code 666 = .ok (.aload_n 0, 1) := by decide +kernel
theorem dL_667 : decode code 667 = .ok (.iload_n 3, 1) := by decide +kernel
theorem dL_668 : decode code 668 = .ok (.iconst 3, 1) := by decide +kernel
theorem dL_669 : decode code 669 = .ok (.iadd, 1) := by decide +kernel
theorem dL_670 : decode code 670 = .ok (.iaload, 1) := by decide +kernel
theorem dL_671 : decode code 671 = .ok (.invokevirtual 86, 3) := by decide +kernel
theorem dL_674 : decode code 674 = .ok (.aload_n 2, 1) := by decide +kernel
theorem dL_675 : decode code 675 = .ok (.aload_n 0, 1) := by decide +kernel
theorem dL_676 : decode code 676 = .ok (.iload_n 3, 1) := by decide +kernel
theorem dL_677 : decode code 677 = .ok (.iconst 1, 1) := by decide +kernel
theorem dL_678 : decode code 678 = .ok (.iadd, 1) := by decide +kernel
theorem dL_679 : decode code 679 = .ok (.iaload, 1) := by decide +kernel
theorem dL_680 : decode code 680 = .ok (.aload_n 0, 1) := by decide +kernel
theorem dL_681 : decode code 681 = .ok (.iload_n 3, 1) := by decide +kernel
theorem dL_682 : decode code 682 = .ok (.iconst 2, 1) := by decide +kernel
theorem dL_683 : decode code 683 = .ok (.iadd, 1) := by decide +kernel
theorem dL_684 : decode code 684 = .ok (.iaload, 1) := by decide +kernel
theorem dL_685 : decode code 685 = .ok (.aload_n 0, 1) := by decide +kernel
theorem dL_686 : decode code 686 = .ok (.iload_n 3, 1) := by decide +kernel
theorem dL_687 : decode code 687 = .ok (.iconst 3, 1) := by decide +kernel
theorem dL_688 : decode code 688 = .ok (.iadd, 1) := by decide +kernel
theorem dL_689 : decode code 689 = .ok (.iaload, 1) := by decide +kernel
theorem dL_690 : decode code 690 = .ok (.invokevirtual 89, 3) := by decide +kernel
theorem dL_693 : decode code 693 = .ok (.if_icmp .eq 355, 3) := by decide +kernel
theorem dL_696 : decode code 696 = .ok (.iconst 0, 1) := by decide +kernel
theorem dL_697 : decode code 697 = .ok (.ireturn, 1) := by decide +kernel
theorem dL_698 : decode code 698 = .ok (.aload_n 1, 1) := by decide +kernel
theorem dL_699 : decode code 699 = .ok (.aload_n 0, 1) := by decide +kernel
theorem dL_700 : decode code 700 = .ok (.iload_n 3, 1) := by decide +kernel
theorem dL_701 : decode code 701 = .ok (.iconst 1, 1) := by decide +kernel
theorem dL_702 : decode code 702 = .ok (.iadd, 1) := by decide +kernel
theorem dL_703 : decode code 703 = .ok (.iaload, 1) := by decide +kernel
theorem dL_704 : decode code 704 = .ok (.aload_n 0, 1) := by decide +kernel
theorem dL_705 : decode code 705 = .ok (.iload_n 3, 1) := by decide +kernel
theorem dL_706 : decode code 706 = .ok (.iconst 2, 1) := by decide +kernel
theorem dL_707 : decode code 707 = .ok (.iadd, 1) := by decide +kernel
theorem dL_708 : decode code 708 = .ok (.iaload, 1) := by decide +kernel
theorem dL_709 : decode code 709 = .ok (.invokevirtual 90, 3) := by decide +kernel
theorem dL_712 : decode code 712 = .ok (.aload_n 2, 1) := by decide +kernel
theorem dL_713 : decode code 713 = .ok (.aload_n 0, 1) := by decide +kernel
theorem dL_714 : decode code 714 = .ok (.iload_n 3, 1) := by decide +kernel
theorem dL_715 : decode code 715 = .ok (.iconst 1, 1) := by decide +kernel
theorem dL_716 : decode code 716 = .ok (.iadd, 1) := by decide +kernel
theorem dL_717 : decode code 717 = .ok (.iaload, 1) := by decide +kernel
theorem dL_718 : decode code 718 = .ok (.aload_n 0, 1) := by decide +kernel
theorem dL_719 : decode code 719 = .ok (.iload_n 3, 1) := by decide +kernel
theorem dL_720 : decode code 720 = .ok (.iconst 2, 1) := by decide +kernel
theorem dL_721 : decode code 721 = .ok (.iadd, 1) := by decide +kernel
theorem dL_722 : decode code 722 = .ok (.iaload, 1) := by decide +kernel
theorem dL_723 : decode code 723 = .ok (.invokevirtual 93, 3) := by decide +kernel
theorem dL_726 : decode code 726 = .ok (.if_icmp .eq 322, 3) := by decide +kernel
theorem dL_729 : decode code 729 = .ok (.iconst 0, 1) := by decide +kernel
theorem dL_730 : decode code 730 = .ok (.ireturn, 1) := by decide +kernel
theorem dL_731 : decode code 731 = .ok (.aload_n 1, 1) := by decide +kernel
theorem dL_732 : decode code 732 = .ok (.aload_n 0, 1) := by decide +kernel
theorem dL_733 : decode code 733 = .ok (.iload_n 3, 1) := by decide +kernel
theorem dL_734 : decode code 734 = .ok (.iconst 1, 1) := by decide +kernel
theorem dL_735 : decode code 735 = .ok (.iadd, 1) := by decide +kernel
theorem dL_736 : decode code 736 = .ok (.iaload, 1) := by decide +kernel
theorem dL_737 : decode code 737 = .ok (.aload_n 0, 1) := by decide +kernel
theorem dL_738 : decode code 738 = .ok (.iload_n 3, 1) := by decide +kernel
theorem dL_739 : decode code 739 = .ok (.iconst 2, 1) := by decide +kernel
theorem dL_740 : decode code 740 = .ok (.iadd, 1) := by decide +kernel
theorem dL_741 : decode code 741 = .ok (.iaload, 1) := by decide +kernel
theorem dL_742 : decode code 742 = .ok (.aload_n 0, 1) := by decide +kernel
theorem dL_743 : decode code 743 = .ok (.iload_n 3, 1) := by decide +kernel
theorem dL_744 : decode code 744 = .ok (.iconst 3, 1) := by decide +kernel
theorem dL_745 : decode code 745 = .ok (.iadd, 1) := by decide +kernel
theorem dL_746 : decode code 746 = .ok (.iaload, 1) := by decide +kernel
theorem dL_747 : decode code 747 = .ok (.aload_n 0, 1) := by decide +kernel
theorem dL_748 : decode code 748 = .ok (.iload_n 3, 1) := by decide +kernel
theorem dL_749 : decode code 749 = .ok (.iconst 4, 1) := by decide +kernel
theorem dL_750 : decode code 750 = .ok (.iadd, 1) := by decide +kernel
theorem dL_751 : decode code 751 = .ok (.iaload, 1) := by decide +kernel
theorem dL_752 : decode code 752 = .ok (.aload_n 0, 1) := by decide +kernel
theorem dL_753 : decode code 753 = .ok (.iload_n 3, 1) := by decide +kernel
theorem dL_754 : decode code 754 = .ok (.iconst 5, 1) := by decide +kernel
theorem dL_755 : decode code 755 = .ok (.iadd, 1) := by decide +kernel
theorem dL_756 : decode code 756 = .ok (.iaload, 1) := by decide +kernel
theorem dL_757 : decode code 757 = .ok (.invokevirtual 94, 3) := by decide +kernel
theorem dL_760 : decode code 760 = .ok (.aload_n 2, 1) := by decide +kernel
theorem dL_761 : decode code 761 = .ok (.aload_n 0, 1) := by decide +kernel
theorem dL_762 : decode code 762 = .ok (.iload_n 3, 1) := by decide +kernel
theorem dL_763 : decode code 763 = .ok (.iconst 1, 1) := by decide +kernel
theorem dL_764 : decode code 764 = .ok (.iadd, 1) := by decide +kernel
theorem dL_765 : decode code 765 = .ok (.iaload, 1) := by decide +kernel
theorem dL_766 : decode code 766 = .ok (.aload_n 0, 1) := by decide +kernel
theorem dL_767 : decode code 767 = .ok (.iload_n 3, 1) := by decide +kernel
theorem dL_768 : decode code 768 = .ok (.iconst 2, 1) := by decide +kernel
theorem dL_769 : decode code 769 = .ok (.iadd, 1) := by decide +kernel
theorem dL_770 : decode code 770 = .ok (.iaload, 1) := by decide +kernel
theorem dL_771 : decode code 771 = .ok (.aload_n 0, 1) := by decide +kernel
theorem dL_772 : decode code 772 = .ok (.iload_n 3, 1) := by decide +kernel
theorem dL_773 : decode code 773 = .ok (.iconst 3, 1) := by decide +kernel
theorem dL_774 : decode code 774 = .ok (.iadd, 1) := by decide +kernel
theorem dL_775 : decode code 775 = .ok (.iaload, 1) := by decide +kernel
theorem dL_776 : decode code 776 = .ok (.aload_n 0, 1) := by decide +kernel
theorem dL_777 : decode code 777 = .ok (.iload_n 3, 1) := by decide +kernel
theorem dL_778 : decode code 778 = .ok (.iconst 4, 1) := by decide +kernel
theorem dL_779 : decode code 779 = .ok (.iadd, 1) := by decide +kernel
theorem dL_780 : decode code 780 = .ok (.iaload, 1) := by decide +kernel
theorem dL_781 : decode code 781 = .ok (.aload_n 0, 1) := by decide +kernel
theorem dL_782 : decode code 782 = .ok (.iload_n 3, 1) := by decide +kernel
theorem dL_783 : decode code 783 = .ok (.iconst 5, 1) := by decide +kernel
theorem dL_784 : decode code 784 = .ok (.iadd, 1) := by decide +kernel
theorem dL_785 : decode code 785 = .ok (.iaload, 1) := by decide +kernel
theorem dL_786 : decode code 786 = .ok (.invokevirtual 98, 3) := by decide +kernel
theorem dL_789 : decode code 789 = .ok (.lcmp, 1) := by decide +kernel
theorem dL_790 : decode code 790 = .ok (.ifCond .eq 258, 3) := by decide +kernel
theorem dL_793 : decode code 793 = .ok (.iconst 0, 1) := by decide +kernel
theorem dL_794 : decode code 794 = .ok (.ireturn, 1) := by decide +kernel
theorem dL_795 : decode code 795 = .ok (.aload_n 1, 1) := by decide +kernel
theorem dL_796 : decode code 796 = .ok (.aload_n 0, 1) := by decide +kernel
theorem dL_797 : decode code 797 = .ok (.iload_n 3, 1) := by decide +kernel
theorem dL_798 : decode code 798 = .ok (.iconst 1, 1) := by decide +kernel
theorem dL_799 : decode code 799 = .ok (.iadd, 1) := by decide +kernel
theorem dL_800 : decode code 800 = .ok (.iaload, 1) := by decide +kernel
theorem dL_801 : decode code 801 = .ok (.aload_n 0, 1) := by decide +kernel
theorem dL_802 : decode code 802 = .ok (.iload_n 3, 1) := by decide +kernel
theorem dL_803 : decode code 803 = .ok (.iconst 2, 1) := by decide +kernel
theorem dL_804 : decode code 804 = .ok (.iadd, 1) := by decide +kernel
theorem dL_805 : decode code 805 = .ok (.iaload, 1) := by decide +kernel
theorem dL_806 : decode code 806 = .ok (.aload_n 0, 1) := by decide +kernel
theorem dL_807 : decode code 807 = .ok (.iload_n 3, 1) := by decide +kernel
theorem dL_808 : decode code 808 = .ok (.iconst 3, 1) := by decide +kernel
theorem dL_809 : decode code 809 = .ok (.iadd, 1) := by decide +kernel
theorem dL_810 : decode code 810 = .ok (.iaload, 1) := by decide +kernel
theorem dL_811 : decode code 811 = .ok (.ifCond .eq 7, 3) := by decide +kernel
theorem dL_814 : decode code 814 = .ok (.iconst 1, 1) := by decide +kernel
theorem dL_815 : decode code 815 = .ok (.goto 4, 3) := by decide +kernel
theorem dL_818 : decode code 818 = .ok (.iconst 0, 1) := by decide +kernel
theorem dL_819 : decode code 819 = .ok (.invokevirtual 99, 3) := by decide +kernel
theorem dL_822 : decode code 822 = .ok (.aload_n 2, 1) := by decide +kernel
theorem dL_823 : decode code 823 = .ok (.aload_n 0, 1) := by decide +kernel
theorem dL_824 : decode code 824 = .ok (.iload_n 3, 1) := by decide +kernel
theorem dL_825 : decode code 825 = .ok (.iconst 1, 1) := by decide +kernel
theorem dL_826 : decode code 826 = .ok (.iadd, 1) := by decide +kernel
theorem dL_827 : decode code 827 = .ok (.iaload, 1) := by decide +kernel
theorem dL_828 : decode code 828 = .ok (.aload_n 0, 1) := by decide +kernel
theorem dL_829 : decode code 829 = .ok (.iload_n 3, 1) := by decide +kernel
theorem dL_830 : decode code 830 = .ok (.iconst 2, 1) := by decide +kernel
theorem dL_831 : decode code 831 = .ok (.iadd, 1) := by decide +kernel
theorem dL_832 : decode code 832 = .ok (.iaload, 1) := by decide +kernel
theorem dL_833 : decode code 833 = .ok (.aload_n 0, 1) := by decide +kernel
theorem dL_834 : decode code 834 = .ok (.iload_n 3, 1) := by decide +kernel
theorem dL_835 : decode code 835 = .ok (.iconst 3, 1) := by decide +kernel
theorem dL_836 : decode code 836 = .ok (.iadd, 1) := by decide +kernel
theorem dL_837 : decode code 837 = .ok (.iaload, 1) := by decide +kernel
theorem dL_838 : decode code 838 = .ok (.ifCond .eq 7, 3) := by decide +kernel
theorem dL_841 : decode code 841 = .ok (.iconst 1, 1) := by decide +kernel
theorem dL_842 : decode code 842 = .ok (.goto 4, 3) := by decide +kernel
theorem dL_845 : decode code 845 = .ok (.iconst 0, 1) := by decide +kernel
theorem dL_846 : decode code 846 = .ok (.invokevirtual 103, 3) := by decide +kernel
theorem dL_849 : decode code 849 = .ok (.if_icmp .eq 199, 3) := by decide +kernel
theorem dL_852 : decode code 852 = .ok (.iconst 0, 1) := by decide +kernel
theorem dL_853 : decode code 853 = .ok (.ireturn, 1) := by decide +kernel
theorem dL_854 : decode code 854 = .ok (.aload_n 1, 1) := by decide +kernel
theorem dL_855 : decode code 855 = .ok (.invokevirtual 104, 3) := by decide +kernel
theorem dL_858 : decode code 858 = .ok (.aload_n 2, 1) := by decide +kernel
theorem dL_859 : decode code 859 = .ok (.invokevirtual 107, 3) := by decide +kernel
theorem dL_862 : decode code 862 = .ok (.if_icmp .eq 186, 3) := by decide +kernel
theorem dL_865 : decode code 865 = .ok (.iconst 0, 1) := by decide +kernel
theorem dL_866 : decode code 866 = .ok (.ireturn, 1) := by decide +kernel
theorem dL_867 : decode code 867 = .ok (.aload_n 1, 1) := by decide +kernel
theorem dL_868 : decode code 868 = .ok (.aload_n 0, 1) := by decide +kernel
theorem dL_869 : decode code 869 = .ok (.iload_n 3, 1) := by decide +kernel
theorem dL_870 : decode code 870 = .ok (.iconst 1, 1) := by decide +kernel
theorem dL_871 : decode code 871 = .ok (.iadd, 1) := by decide +kernel
theorem dL_872 : decode code 872 = .ok (.iaload, 1) := by decide +kernel
theorem dL_873 : decode code 873 = .ok (.invokevirtual 108, 3) := by decide +kernel
theorem dL_876 : decode code 876 = .ok (.aload_n 2, 1) := by decide +kernel
theorem dL_877 : decode code 877 = .ok (.aload_n 0, 1) := by decide +kernel
theorem dL_878 : decode code 878 = .ok (.iload_n 3, 1) := by decide +kernel
theorem dL_879 : decode code 879 = .ok (.iconst 1, 1) := by decide +kernel
theorem dL_880 : decode code 880 = .ok (.iadd, 1) := by decide +kernel
theorem dL_881 : decode code 881 = .ok (.iaload, 1) := by decide +kernel
theorem dL_882 : decode code 882 = .ok (.invokevirtual 111, 3) := by decide +kernel
theorem dL_885 : decode code 885 = .ok (.if_icmp .eq 163, 3) := by decide +kernel
theorem dL_888 : decode code 888 = .ok (.iconst 0, 1) := by decide +kernel
theorem dL_889 : decode code 889 = .ok (.ireturn, 1) := by decide +kernel
theorem dL_890 : decode code 890 = .ok (.aload_n 1, 1) := by decide +kernel
theorem dL_891 : decode code 891 = .ok (.invokevirtual 112, 3) := by decide +kernel
theorem dL_894 : decode code 894 = .ok (.aload_n 2, 1) := by decide +kernel
theorem dL_895 : decode code 895 = .ok (.invokevirtual 115, 3) := by decide +kernel
theorem dL_898 : decode code 898 = .ok (.if_icmp .eq 150, 3) := by decide +kernel
theorem dL_901 : decode code 901 = .ok (.iconst 0, 1) := by decide +kernel
theorem dL_902 : decode code 902 = .ok (.ireturn, 1) := by decide +kernel
theorem dL_903 : decode code 903 = .ok (.aload_n 1, 1) := by decide +kernel
theorem dL_904 : decode code 904 = .ok (.aload_n 0, 1) := by decide +kernel
theorem dL_905 : decode code 905 = .ok (.iload_n 3, 1) := by decide +kernel
theorem dL_906 : decode code 906 = .ok (.iconst 1, 1) := by decide +kernel
theorem dL_907 : decode code 907 = .ok (.iadd, 1) := by decide +kernel
theorem dL_908 : decode code 908 = .ok (.iaload, 1) := by decide +kernel
theorem dL_909 : decode code 909 = .ok (.aload_n 0, 1) := by decide +kernel
theorem dL_910 : decode code 910 = .ok (.iload_n 3, 1) := by decide +kernel
theorem dL_911 : decode code 911 = .ok (.iconst 2, 1) := by decide +kernel
theorem dL_912 : decode code 912 = .ok (.iadd, 1) := by decide +kernel
theorem dL_913 : decode code 913 = .ok (.iaload, 1) := by decide +kernel
theorem dL_914 : decode code 914 = .ok (.invokevirtual 116, 3) := by decide +kernel
theorem dL_917 : decode code 917 = .ok (.aload_n 2, 1) := by decide +kernel
theorem dL_918 : decode code 918 = .ok (.aload_n 0, 1) := by decide +kernel
theorem dL_919 : decode code 919 = .ok (.iload_n 3, 1) := by decide +kernel
theorem dL_920 : decode code 920 = .ok (.iconst 1, 1) := by decide +kernel
theorem dL_921 : decode code 921 = .ok (.iadd, 1) := by decide +kernel
theorem dL_922 : decode code 922 = .ok (.iaload, 1) := by decide +kernel
theorem dL_923 : decode code 923 = .ok (.aload_n 0, 1) := by decide +kernel
theorem dL_924 : decode code 924 = .ok (.iload_n 3, 1) := by decide +kernel
theorem dL_925 : decode code 925 = .ok (.iconst 2, 1) := by decide +kernel
theorem dL_926 : decode code 926 = .ok (.iadd, 1) := by decide +kernel
theorem dL_927 : decode code 927 = .ok (.iaload, 1) := by decide +kernel
theorem dL_928 : decode code 928 = .ok (.invokevirtual 119, 3) := by decide +kernel
theorem dL_931 : decode code 931 = .ok (.if_icmp .eq 117, 3) := by decide +kernel
theorem dL_934 : decode code 934 = .ok (.iconst 0, 1) := by decide +kernel
theorem dL_935 : decode code 935 = .ok (.ireturn, 1) := by decide +kernel
theorem dL_936 : decode code 936 = .ok (.aload_n 1, 1) := by decide +kernel
theorem dL_937 : decode code 937 = .ok (.aload_n 0, 1) := by decide +kernel
theorem dL_938 : decode code 938 = .ok (.iload_n 3, 1) := by decide +kernel
theorem dL_939 : decode code 939 = .ok (.iconst 1, 1) := by decide +kernel
theorem dL_940 : decode code 940 = .ok (.iadd, 1) := by decide +kernel
theorem dL_941 : decode code 941 = .ok (.iaload, 1) := by decide +kernel
theorem dL_942 : decode code 942 = .ok (.aload_n 0, 1) := by decide +kernel
theorem dL_943 : decode code 943 = .ok (.iload_n 3, 1) := by decide +kernel
theorem dL_944 : decode code 944 = .ok (.iconst 2, 1) := by decide +kernel
theorem dL_945 : decode code 945 = .ok (.iadd, 1) := by decide +kernel
theorem dL_946 : decode code 946 = .ok (.iaload, 1) := by decide +kernel
theorem dL_947 : decode code 947 = .ok (.aload_n 0, 1) := by decide +kernel
theorem dL_948 : decode code 948 = .ok (.iload_n 3, 1) := by decide +kernel
theorem dL_949 : decode code 949 = .ok (.iconst 3, 1) := by decide +kernel
theorem dL_950 : decode code 950 = .ok (.iadd, 1) := by decide +kernel
theorem dL_951 : decode code 951 = .ok (.iaload, 1) := by decide +kernel
theorem dL_952 : decode code 952 = .ok (.invokevirtual 120, 3) := by decide +kernel
theorem dL_955 : decode code 955 = .ok (.aload_n 2, 1) := by decide +kernel
theorem dL_956 : decode code 956 = .ok (.aload_n 0, 1) := by decide +kernel
theorem dL_957 : decode code 957 = .ok (.iload_n 3, 1) := by decide +kernel
theorem dL_958 : decode code 958 = .ok (.iconst 1, 1) := by decide +kernel
theorem dL_959 : decode code 959 = .ok (.iadd, 1) := by decide +kernel
theorem dL_960 : decode code 960 = .ok (.iaload, 1) := by decide +kernel
theorem dL_961 : decode code 961 = .ok (.aload_n 0, 1) := by decide +kernel
theorem dL_962 : decode code 962 = .ok (.iload_n 3, 1) := by decide +kernel
theorem dL_963 : decode code 963 = .ok (.iconst 2, 1) := by decide +kernel
theorem dL_964 : decode code 964 = .ok (.iadd, 1) := by decide +kernel
theorem dL_965 : decode code 965 = .ok (.iaload, 1) := by decide +kernel
theorem dL_966 : decode code 966 = .ok (.aload_n 0, 1) := by decide +kernel
theorem dL_967 : decode code 967 = .ok (.iload_n 3, 1) := by decide +kernel
theorem dL_968 : decode code 968 = .ok (.iconst 3, 1) := by decide +kernel
theorem dL_969 : decode code 969 = .ok (.iadd, 1) := by decide +kernel
theorem dL_970 : decode code 970 = .ok (.iaload, 1) := by decide +kernel
theorem dL_971 : decode code 971 = .ok (.invokevirtual 123, 3) := by decide +kernel
theorem dL_974 : decode code 974 = .ok (.if_icmp .eq 74, 3) := by decide +kernel
theorem dL_977 : decode code 977 = .ok (.iconst 0, 1) := by decide +kernel
theorem dL_978 : decode code 978 = .ok (.ireturn, 1) := by decide +kernel
theorem dL_979 : decode code 979 = .ok (.aload_n 1, 1) := by decide +kernel
theorem dL_980 : decode code 980 = .ok (.aload_n 0, 1) := by decide +kernel
theorem dL_981 : decode code 981 = .ok (.iload_n 3, 1) := by decide +kernel
theorem dL_982 : decode code 982 = .ok (.iconst 1, 1) := by decide +kernel
theorem dL_983 : decode code 983 = .ok (.iadd, 1) := by decide +kernel
theorem dL_984 : decode code 984 = .ok (.iaload, 1) := by decide +kernel
theorem dL_985 : decode code 985 = .ok (.invokevirtual 124, 3) := by decide +kernel
theorem dL_988 : decode code 988 = .ok (.aload_n 2, 1) := by decide +kernel
theorem dL_989 : decode code 989 = .ok (.aload_n 0, 1) := by decide +kernel
theorem dL_990 : decode code 990 = .ok (.iload_n 3, 1) := by decide +kernel
theorem dL_991 : decode code 991 = .ok (.iconst 1, 1) := by decide +kernel
theorem dL_992 : decode code 992 = .ok (.iadd, 1) := by decide +kernel
theorem dL_993 : decode code 993 = .ok (.iaload, 1) := by decide +kernel
theorem dL_994 : decode code 994 = .ok (.invokevirtual 127, 3) := by decide +kernel
theorem dL_997 : decode code 997 = .ok (.if_icmp .eq 51, 3) := by decide +kernel
theorem dL_1000 : decode code 1000 = .ok (.iconst 0, 1) := by decide +kernel
theorem dL_1001 : decode code 1001 = .ok (.ireturn, 1) := by decide +kernel
theorem dL_1002 : decode code 1002 = .ok (.aload_n 1, 1) := by decide +kernel
theorem dL_1003 : decode code 1003 = .ok (.aload_n 0, 1) := by decide +kernel
theorem dL_1004 : decode code 1004 = .ok (.iload_n 3, 1) := by decide +kernel
theorem dL_1005 : decode code 1005 = .ok (.iconst 1, 1) := by decide +kernel
theorem dL_1006 : decode code 1006 = .ok (.iadd, 1) := by decide +kernel
theorem dL_1007 : decode code 1007 = .ok (.iaload, 1) := by decide +kernel
theorem dL_1008 : decode code 1008 = .ok (.invokevirtual 128, 3) := by decide +kernel
theorem dL_1011 : decode code 1011 = .ok (.aload_n 2, 1) := by decide +kernel
theorem dL_1012 : decode code 1012 = .ok (.aload_n 0, 1) := by decide +kernel
theorem dL_1013 : decode code 1013 = .ok (.iload_n 3, 1) := by decide +kernel
theorem dL_1014 : decode code 1014 = .ok (.iconst 1, 1) := by decide +kernel
theorem dL_1015 : decode code 1015 = .ok (.iadd, 1) := by decide +kernel
theorem dL_1016 : decode code 1016 = .ok (.iaload, 1) := by decide +kernel
theorem dL_1017 : decode code 1017 = .ok (.invokevirtual 131, 3) := by decide +kernel
theorem dL_1020 : decode code 1020 = .ok (.if_icmp .eq 28, 3) := by decide +kernel
theorem dL_1023 : decode code 1023 = .ok (.iconst 0, 1) := by decide +kernel
theorem dL_1024 : decode code 1024 = .ok (.ireturn, 1) := by decide +kernel
theorem dL_1025 : decode code 1025 = .ok (.aload_n 1, 1) := by decide +kernel
theorem dL_1026 : decode code 1026 = .ok (.aload_n 0, 1) := by decide +kernel
theorem dL_1027 : decode code 1027 = .ok (.iload_n 3, 1) := by decide +kernel
theorem dL_1028 : decode code 1028 = .ok (.iconst 1, 1) := by decide +kernel
theorem dL_1029 : decode code 1029 = .ok (.iadd, 1) := by decide +kernel
theorem dL_1030 : decode code 1030 = .ok (.iaload, 1) := by decide +kernel
theorem dL_1031 : decode code 1031 = .ok (.invokevirtual 132, 3) := by decide +kernel
theorem dL_1034 : decode code 1034 = .ok (.aload_n 2, 1) := by decide +kernel
theorem dL_1035 : decode code 1035 = .ok (.aload_n 0, 1) := by decide +kernel
theorem dL_1036 : decode code 1036 = .ok (.iload_n 3, 1) := by decide +kernel
theorem dL_1037 : decode code 1037 = .ok (.iconst 1, 1) := by decide +kernel
theorem dL_1038 : decode code 1038 = .ok (.iadd, 1) := by decide +kernel
theorem dL_1039 : decode code 1039 = .ok (.iaload, 1) := by decide +kernel
theorem dL_1040 : decode code 1040 = .ok (.invokevirtual 135, 3) := by decide +kernel
theorem dL_1043 : decode code 1043 = .ok (.if_icmp .eq 5, 3) := by decide +kernel
theorem dL_1046 : decode code 1046 = .ok (.iconst 0, 1) := by decide +kernel
theorem dL_1047 : decode code 1047 = .ok (.ireturn, 1) := by decide +kernel
theorem dL_1048 : decode code 1048 = .ok (.iinc 3 6, 3) := by decide +kernel
theorem dL_1051 : decode code 1051 = .ok (.goto (-1033), 3) := by decide +kernel
theorem dL_1054 : decode code 1054 = .ok (.iconst 1, 1) := by decide +kernel
theorem dL_1055 : decode code 1055 = .ok (.ireturn, 1) := by decide +kernel
theorem lL_X10_stone : LkV RL 13 yX10_stone cX10_stone 5 (some .int) 4 := ⟨wd_316, wd_317, wd_318, wd_30, wd_319, by decide, by decide, by decide +kernel⟩
theorem lL_X11_stone : LkV RL 17 yX11_stone cX11_stone 6 (some .int) 4 := ⟨wd_890, wd_891, wd_892, wd_41, wd_893, by decide, by decide, by decide +kernel⟩
theorem lL_X10_smash : LkV RL 18 yX10_smash cX10_smash 2 (some .int) 1 := ⟨wd_338, wd_339, wd_340, wd_30, wd_341, by decide, by decide, by decide +kernel⟩
theorem lL_X11_smash : LkV RL 22 yX11_smash cX11_smash 2 (some .int) 1 := ⟨wd_907, wd_908, wd_909, wd_41, wd_910, by decide, by decide, by decide +kernel⟩
theorem lL_X10_picture : LkV RL 23 yX10_picture cX10_picture 6 (some .int) 4 := ⟨wd_351, wd_352, wd_353, wd_30, wd_354, by decide, by decide, by decide +kernel⟩
theorem lL_X11_picture : LkV RL 26 yX11_picture cX11_picture 6 (some .int) 4 := ⟨wd_915, wd_916, wd_917, wd_41, wd_918, by decide, by decide, by decide +kernel⟩
theorem lL_X10_set : LkV RL 27 yX10_set cX10_set 4 (some .int) 2 := ⟨wd_355, wd_356, wd_357, wd_30, wd_358, by decide, by decide, by decide +kernel⟩
theorem lL_X11_set : LkV RL 31 yX11_set cX11_set 4 (some .int) 2 := ⟨wd_926, wd_927, wd_928, wd_41, wd_929, by decide, by decide, by decide +kernel⟩
theorem lL_X10_hairs : LkV RL 32 yX10_hairs cX10_hairs 4 (some .int) 2 := ⟨wd_359, wd_360, wd_361, wd_30, wd_362, by decide, by decide, by decide +kernel⟩
theorem lL_X11_hairs : LkV RL 35 yX11_hairs cX11_hairs 4 (some .int) 2 := ⟨wd_930, wd_931, wd_932, wd_41, wd_933, by decide, by decide, by decide +kernel⟩
theorem lL_X10_say : LkV RL 36 yX10_say cX10_say 2 (some .int) 1 := ⟨wd_363, wd_364, wd_365, wd_30, wd_366, by decide, by decide, by decide +kernel⟩
theorem lL_X11_say : LkV RL 39 yX11_say cX11_say 2 (some .int) 1 := ⟨wd_936, wd_937, wd_938, wd_41, wd_939, by decide, by decide, by decide +kernel⟩
theorem lL_X10_wipe : LkV RL 40 yX10_wipe cX10_wipe 2 (some .int) 0 := ⟨wd_372, wd_373, wd_374, wd_30, wd_375, by decide, by decide, by decide +kernel⟩
theorem lL_X11_wipe : LkV RL 44 yX11_wipe cX11_wipe 2 (some .int) 0 := ⟨wd_942, wd_943, wd_944, wd_41, wd_945, by decide, by decide, by decide +kernel⟩
theorem lL_X10_fault : LkV RL 45 yX10_fault cX10_fault 1 (some .int) 0 := ⟨wd_376, wd_377, wd_378, wd_30, wd_379, by decide, by decide, by decide +kernel⟩
theorem lL_X11_fault : LkV RL 48 yX11_fault cX11_fault 3 (some .int) 0 := ⟨wd_946, wd_947, wd_948, wd_41, wd_949, by decide, by decide, by decide +kernel⟩
theorem lL_X10_judge : LkV RL 49 yX10_judge cX10_judge 3 (some .int) 1 := ⟨wd_404, wd_405, wd_406, wd_30, wd_407, by decide, by decide, by decide +kernel⟩
theorem lL_X11_judge : LkV RL 52 yX11_judge cX11_judge 3 (some .int) 1 := ⟨wd_967, wd_968, wd_969, wd_41, wd_970, by decide, by decide, by decide +kernel⟩
theorem lL_X10_kinds : LkV RL 53 yX10_kinds cX10_kinds 3 (some .int) 1 := ⟨wd_515, wd_516, wd_517, wd_30, wd_518, by decide, by decide, by decide +kernel⟩
theorem lL_X11_kinds : LkV RL 56 yX11_kinds cX11_kinds 3 (some .int) 1 := ⟨wd_1024, wd_1025, wd_1026, wd_41, wd_1027, by decide, by decide, by decide +kernel⟩
theorem lL_X10_behind : LkV RL 57 yX10_behind cX10_behind 4 (some .int) 2 := ⟨wd_519, wd_520, wd_521, wd_30, wd_522, by decide, by decide, by decide +kernel⟩
theorem lL_X11_behind : LkV RL 60 yX11_behind cX11_behind 4 (some .int) 2 := ⟨wd_1028, wd_1029, wd_1030, wd_41, wd_1031, by decide, by decide, by decide +kernel⟩
theorem lL_X10_fat : LkV RL 61 yX10_fat cX10_fat 4 (some .int) 2 := ⟨wd_527, wd_528, wd_529, wd_30, wd_530, by decide, by decide, by decide +kernel⟩
theorem lL_X11_fat : LkV RL 64 yX11_fat cX11_fat 4 (some .int) 2 := ⟨wd_1032, wd_1033, wd_1034, wd_41, wd_1035, by decide, by decide, by decide +kernel⟩
theorem lL_X10_sky : LkV RL 65 yX10_sky cX10_sky 3 (some .int) 1 := ⟨wd_535, wd_536, wd_537, wd_30, wd_538, by decide, by decide, by decide +kernel⟩
theorem lL_X11_sky : LkV RL 68 yX11_sky cX11_sky 3 (some .int) 1 := ⟨wd_1036, wd_1037, wd_1038, wd_41, wd_1039, by decide, by decide, by decide +kernel⟩
theorem lL_X10_done : LkV RL 69 yX10_done cX10_done 2 (some .int) 0 := ⟨wd_539, wd_540, wd_541, wd_30, wd_542, by decide, by decide, by decide +kernel⟩
theorem lL_X11_done : LkV RL 72 yX11_done cX11_done 2 (some .int) 0 := ⟨wd_1040, wd_1041, wd_1042, wd_41, wd_1043, by decide, by decide, by decide +kernel⟩
theorem lL_X10_clean : LkV RL 73 yX10_clean cX10_clean 3 (some .int) 1 := ⟨wd_544, wd_545, wd_546, wd_30, wd_547, by decide, by decide, by decide +kernel⟩
theorem lL_X11_clean : LkV RL 76 yX11_clean cX11_clean 3 (some .int) 1 := ⟨wd_1044, wd_1045, wd_1046, wd_41, wd_1047, by decide, by decide, by decide +kernel⟩
theorem lL_X10_grind : LkV RL 77 yX10_grind cX10_grind 5 (some .int) 3 := ⟨wd_554, wd_555, wd_556, wd_30, wd_557, by decide, by decide, by decide +kernel⟩
theorem lL_X11_grind : LkV RL 81 yX11_grind cX11_grind 7 (some .int) 3 := ⟨wd_1052, wd_1053, wd_1054, wd_41, wd_1055, by decide, by decide, by decide +kernel⟩
theorem lL_X10_lives : LkV RL 82 yX10_lives cX10_lives 4 (some .int) 2 := ⟨wd_567, wd_568, wd_569, wd_30, wd_570, by decide, by decide, by decide +kernel⟩
theorem lL_X11_lives : LkV RL 85 yX11_lives cX11_lives 4 (some .int) 2 := ⟨wd_1056, wd_1057, wd_1058, wd_41, wd_1059, by decide, by decide, by decide +kernel⟩
theorem lL_X10_orders : LkV RL 86 yX10_orders cX10_orders 4 (some .int) 3 := ⟨wd_571, wd_572, wd_573, wd_30, wd_574, by decide, by decide, by decide +kernel⟩
theorem lL_X11_orders : LkV RL 89 yX11_orders cX11_orders 9 (some .int) 3 := ⟨wd_1060, wd_1061, wd_1062, wd_41, wd_1063, by decide, by decide, by decide +kernel⟩
theorem lL_X10_colours : LkV RL 90 yX10_colours cX10_colours 3 (some .int) 2 := ⟨wd_627, wd_628, wd_629, wd_30, wd_630, by decide, by decide, by decide +kernel⟩
theorem lL_X11_colours : LkV RL 93 yX11_colours cX11_colours 11 (some .int) 2 := ⟨wd_1077, wd_1078, wd_1079, wd_41, wd_1080, by decide, by decide, by decide +kernel⟩
theorem lL_X10_crack : LkV RL 94 yX10_crack cX10_crack 14 (some .long) 5 := ⟨wd_652, wd_653, wd_654, wd_30, wd_655, by decide, by decide, by decide +kernel⟩
theorem lL_X11_crack : LkV RL 98 yX11_crack cX11_crack 15 (some .long) 5 := ⟨wd_1085, wd_1086, wd_1087, wd_41, wd_1088, by decide, by decide, by decide +kernel⟩
theorem lL_X10_seen : LkV RL 99 yX10_seen cX10_seen 4 (some .int) 3 := ⟨wd_666, wd_667, wd_668, wd_30, wd_669, by decide, by decide, by decide +kernel⟩
theorem lL_X11_seen : LkV RL 103 yX11_seen cX11_seen 4 (some .int) 3 := ⟨wd_1096, wd_1097, wd_1098, wd_41, wd_1099, by decide, by decide, by decide +kernel⟩
theorem lL_X10_forget : LkV RL 104 yX10_forget cX10_forget 2 (some .int) 0 := ⟨wd_675, wd_676, wd_677, wd_30, wd_678, by decide, by decide, by decide +kernel⟩
theorem lL_X11_forget : LkV RL 107 yX11_forget cX11_forget 2 (some .int) 0 := ⟨wd_1100, wd_1101, wd_1102, wd_41, wd_1103, by decide, by decide, by decide +kernel⟩
theorem lL_X10_whose : LkV RL 108 yX10_whose cX10_whose 5 (some .int) 1 := ⟨wd_679, wd_680, wd_681, wd_30, wd_682, by decide, by decide, by decide +kernel⟩
theorem lL_X11_whose : LkV RL 111 yX11_whose cX11_whose 5 (some .int) 1 := ⟨wd_1104, wd_1105, wd_1106, wd_41, wd_1107, by decide, by decide, by decide +kernel⟩
theorem lL_X10_suspects : LkV RL 112 yX10_suspects cX10_suspects 3 (some .int) 0 := ⟨wd_705, wd_706, wd_707, wd_30, wd_708, by decide, by decide, by decide +kernel⟩
theorem lL_X11_suspects : LkV RL 115 yX11_suspects cX11_suspects 3 (some .int) 0 := ⟨wd_1116, wd_1117, wd_1118, wd_41, wd_1119, by decide, by decide, by decide +kernel⟩
theorem lL_X10_next : LkV RL 116 yX10_next cX10_next 7 (some .int) 2 := ⟨wd_709, wd_710, wd_711, wd_30, wd_712, by decide, by decide, by decide +kernel⟩
theorem lL_X11_next : LkV RL 119 yX11_next cX11_next 5 (some .int) 2 := ⟨wd_1120, wd_1121, wd_1122, wd_41, wd_1123, by decide, by decide, by decide +kernel⟩
theorem lL_X10_year : LkV RL 120 yX10_year cX10_year 4 (some .int) 3 := ⟨wd_719, wd_720, wd_721, wd_30, wd_722, by decide, by decide, by decide +kernel⟩
theorem lL_X11_year : LkV RL 123 yX11_year cX11_year 9 (some .int) 3 := ⟨wd_1129, wd_1130, wd_1131, wd_41, wd_1132, by decide, by decide, by decide +kernel⟩
theorem lL_X10_image : LkV RL 124 yX10_image cX10_image 3 (some .int) 1 := ⟨wd_737, wd_738, wd_739, wd_30, wd_740, by decide, by decide, by decide +kernel⟩
theorem lL_X11_image : LkV RL 127 yX11_image cX11_image 2 (some .int) 1 := ⟨wd_1136, wd_1137, wd_1138, wd_41, wd_1139, by decide, by decide, by decide +kernel⟩
theorem lL_X10_restore : LkV RL 128 yX10_restore cX10_restore 3 (some .int) 1 := ⟨wd_752, wd_753, wd_754, wd_30, wd_755, by decide, by decide, by decide +kernel⟩
theorem lL_X11_restore : LkV RL 131 yX11_restore cX11_restore 2 (some .int) 1 := ⟨wd_1152, wd_1153, wd_1154, wd_41, wd_1155, by decide, by decide, by decide +kernel⟩
theorem lL_X10_told : LkV RL 132 yX10_told cX10_told 4 (some .int) 1 := ⟨wd_756, wd_757, wd_758, wd_30, wd_759, by decide, by decide, by decide +kernel⟩
theorem lL_X11_told : LkV RL 135 yX11_told cX11_told 3 (some .int) 1 := ⟨wd_1156, wd_1157, wd_1158, wd_41, wd_1159, by decide, by decide, by decide +kernel⟩
theorem lL_X10_init : LkI RL 9 yX10_init cX10_init 1 0 := ⟨wd_47, wd_48, wd_30, wd_49, rfl, by decide, by decide, by decide +kernel⟩
theorem lL_X11_init : LkI RL 12 yX11_init cX11_init 2 0 := ⟨wd_770, wd_771, wd_41, wd_772, rfl, by decide, by decide, by decide +kernel⟩
