theorem dL_law_0 : decode cL_law 0 = .ok (.new 7, 3) := by decide +kernel
theorem dL_law_3 : decode cL_law 3 = .ok (.dup, 1) := by decide +kernel
theorem dL_law_4 : decode cL_law 4 = .ok (.invokespecial 9, 3) := by decide +kernel
theorem dL_law_7 : decode cL_law 7 = .ok (.astore_n 1, 1) := by decide +kernel
theorem dL_law_8 : decode cL_law 8 = .ok (.new 10, 3) := by decide +kernel
theorem dL_law_11 : decode cL_law 11 = .ok (.dup, 1) := by decide +kernel
theorem dL_law_12 : decode cL_law 12 = .ok (.invokespecial 12, 3) := by decide +kernel
theorem dL_law_15 : decode cL_law 15 = .ok (.astore_n 2, 1) := by decide +kernel
theorem dL_law_16 : decode cL_law 16 = .ok (.iconst 0, 1) := by decide +kernel
theorem dL_law_17 : decode cL_law 17 = .ok (.istore_n 3, 1) := by decide +kernel
theorem dL_law_18 : decode cL_law 18 = .ok (.iload_n 3, 1) := by decide +kernel
theorem dL_law_19 : decode cL_law 19 = .ok (.aload_n 0, 1) := by decide +kernel
theorem dL_law_20 : decode cL_law 20 = .ok (.arraylength, 1) := by decide +kernel
theorem dL_law_21 : decode cL_law 21 = .ok (.iconst 5, 1) := by decide +kernel
theorem dL_law_22 : decode cL_law 22 = .ok (.isub, 1) := by decide +kernel
theorem dL_law_23 : decode cL_law 23 = .ok (.if_icmp .gt 928, 3) := by decide +kernel
theorem dL_law_26 : decode cL_law 26 = .ok (.aload_n 0, 1) := by decide +kernel
theorem dL_law_27 : decode cL_law 27 = .ok (.iload_n 3, 1) := by decide +kernel
theorem dL_law_28 : decode cL_law 28 = .ok (.iaload, 1) := by decide +kernel
theorem dL_law_29 : decode cL_law 29 = .ok (.bipush 31, 2) := by decide +kernel
theorem dL_law_31 : decode cL_law 31 = .ok (.iand, 1) := by decide +kernel
theorem dL_law_32 : decode cL_law 32 = .ok (.tableswitch 913 0 26 #[124, 187, 200, 233, 256, 289, 322, 365, 418, 467, 520, 543, 576, 590, 613, 656, 700, 723, 736, 749, 762, 775, 808, 841, 864, 877, 890], 124) := by decide +kernel
theorem dL_law_156 : decode cL_law 156 = .ok (.aload_n 1, 1) := by decide +kernel
theorem dL_law_157 : decode cL_law 157 = .ok (.aload_n 0, 1) := by decide +kernel
theorem dL_law_158 : decode cL_law 158 = .ok (.iload_n 3, 1) := by decide +kernel
theorem dL_law_159 : decode cL_law 159 = .ok (.iconst 1, 1) := by decide +kernel
theorem dL_law_160 : decode cL_law 160 = .ok (.iadd, 1) := by decide +kernel
theorem dL_law_161 : decode cL_law 161 = .ok (.iaload, 1) := by decide +kernel
theorem dL_law_162 : decode cL_law 162 = .ok (.aload_n 0, 1) := by decide +kernel
theorem dL_law_163 : decode cL_law 163 = .ok (.iload_n 3, 1) := by decide +kernel
theorem dL_law_164 : decode cL_law 164 = .ok (.iconst 2, 1) := by decide +kernel
theorem dL_law_165 : decode cL_law 165 = .ok (.iadd, 1) := by decide +kernel
theorem dL_law_166 : decode cL_law 166 = .ok (.iaload, 1) := by decide +kernel
theorem dL_law_167 : decode cL_law 167 = .ok (.i2l, 1) := by decide +kernel
theorem dL_law_168 : decode cL_law 168 = .ok (.bipush 32, 2) := by decide +kernel
theorem dL_law_170 : decode cL_law 170 = .ok (.lshl, 1) := by decide +kernel
theorem dL_law_171 : decode cL_law 171 = .ok (.aload_n 0, 1) := by decide +kernel
theorem dL_law_172 : decode cL_law 172 = .ok (.iload_n 3, 1) := by decide +kernel
theorem dL_law_173 : decode cL_law 173 = .ok (.iconst 3, 1) := by decide +kernel
theorem dL_law_174 : decode cL_law 174 = .ok (.iadd, 1) := by decide +kernel
theorem dL_law_175 : decode cL_law 175 = .ok (.iaload, 1) := by decide +kernel
theorem dL_law_176 : decode cL_law 176 = .ok (.i2l, 1) := by decide +kernel
theorem dL_law_177 : decode cL_law 177 = .ok (.ldc2_w 13, 3) := by decide +kernel
theorem dL_law_180 : decode cL_law 180 = .ok (.land, 1) := by decide +kernel
theorem dL_law_181 : decode cL_law 181 = .ok (.lor, 1) := by decide +kernel
theorem dL_law_182 : decode cL_law 182 = .ok (.invokevirtual 15, 3) := by decide +kernel
theorem dL_law_185 : decode cL_law 185 = .ok (.aload_n 2, 1) := by decide +kernel
theorem dL_law_186 : decode cL_law 186 = .ok (.aload_n 0, 1) := by decide +kernel
theorem dL_law_187 : decode cL_law 187 = .ok (.iload_n 3, 1) := by decide +kernel
theorem dL_law_188 : decode cL_law 188 = .ok (.iconst 1, 1) := by decide +kernel
theorem dL_law_189 : decode cL_law 189 = .ok (.iadd, 1) := by decide +kernel
theorem dL_law_190 : decode cL_law 190 = .ok (.iaload, 1) := by decide +kernel
theorem dL_law_191 : decode cL_law 191 = .ok (.aload_n 0, 1) := by decide +kernel
theorem dL_law_192 : decode cL_law 192 = .ok (.iload_n 3, 1) := by decide +kernel
theorem dL_law_193 : decode cL_law 193 = .ok (.iconst 2, 1) := by decide +kernel
theorem dL_law_194 : decode cL_law 194 = .ok (.iadd, 1) := by decide +kernel
theorem dL_law_195 : decode cL_law 195 = .ok (.iaload, 1) := by decide +kernel
theorem dL_law_196 : decode cL_law 196 = .ok (.i2l, 1) := by decide +kernel
theorem dL_law_197 : decode cL_law 197 = .ok (.bipush 32, 2) := by decide +kernel
theorem dL_law_199 : decode cL_law 199 = .ok (.lshl, 1) := by decide +kernel
theorem dL_law_200 : decode cL_law 200 = .ok (.aload_n 0, 1) := by decide +kernel
theorem dL_law_201 : decode cL_law 201 = .ok (.iload_n 3, 1) := by decide +kernel
theorem dL_law_202 : decode cL_law 202 = .ok (.iconst 3, 1) := by decide +kernel
theorem dL_law_203 : decode cL_law 203 = .ok (.iadd, 1) := by decide +kernel
theorem dL_law_204 : decode cL_law 204 = .ok (.iaload, 1) := by decide +kernel
theorem dL_law_205 : decode cL_law 205 = .ok (.i2l, 1) := by decide +kernel
theorem dL_law_206 : decode cL_law 206 = .ok (.ldc2_w 13, 3) := by decide +kernel
theorem dL_law_209 : decode cL_law 209 = .ok (.land, 1) := by decide +kernel
theorem dL_law_210 : decode cL_law 210 = .ok (.lor, 1) := by decide +kernel
theorem dL_law_211 : decode cL_law 211 = .ok (.invokevirtual 19, 3) := by decide +kernel
theorem dL_law_214 : decode cL_law 214 = .ok (.if_icmp .eq 731, 3) := by decide +kernel
theorem dL_law_217 : decode cL_law 217 = .ok (.iconst 0, 1) := by decide +kernel
theorem dL_law_218 : decode cL_law 218 = .ok (.ireturn, 1) := by decide +kernel
theorem dL_law_219 : decode cL_law 219 = .ok (.aload_n 1, 1) := by decide +kernel
theorem dL_law_220 : decode cL_law 220 = .ok (.invokevirtual 20, 3) := by decide +kernel
theorem dL_law_223 : decode cL_law 223 = .ok (.aload_n 2, 1) := by decide +kernel
theorem dL_law_224 : decode cL_law 224 = .ok (.invokevirtual 24, 3) := by decide +kernel
theorem dL_law_227 : decode cL_law 227 = .ok (.if_icmp .eq 718, 3) := by decide +kernel
theorem dL_law_230 : decode cL_law 230 = .ok (.iconst 0, 1) := by decide +kernel
theorem dL_law_231 : decode cL_law 231 = .ok (.ireturn, 1) := by decide +kernel
theorem dL_law_232 : decode cL_law 232 = .ok (.aload_n 1, 1) := by decide +kernel
theorem dL_law_233 : decode cL_law 233 = .ok (.aload_n 0, 1) := by decide +kernel
theorem dL_law_234 : decode cL_law 234 = .ok (.iload_n 3, 1) := by decide +kernel
theorem dL_law_235 : decode cL_law 235 = .ok (.iconst 1, 1) := by decide +kernel
theorem dL_law_236 : decode cL_law 236 = .ok (.iadd, 1) := by decide +kernel
theorem dL_law_237 : decode cL_law 237 = .ok (.iaload, 1) := by decide +kernel
theorem dL_law_238 : decode cL_law 238 = .ok (.aload_n 0, 1) := by decide +kernel
theorem dL_law_239 : decode cL_law 239 = .ok (.iload_n 3, 1) := by decide +kernel
theorem dL_law_240 : decode cL_law 240 = .ok (.iconst 2, 1) := by decide +kernel
theorem dL_law_241 : decode cL_law 241 = .ok (.iadd, 1) := by decide +kernel
theorem dL_law_242 : decode cL_law 242 = .ok (.iaload, 1) := by decide +kernel
theorem dL_law_243 : decode cL_law 243 = .ok (.invokevirtual 25, 3) := by decide +kernel
theorem dL_law_246 : decode cL_law 246 = .ok (.aload_n 2, 1) := by decide +kernel
theorem dL_law_247 : decode cL_law 247 = .ok (.aload_n 0, 1) := by decide +kernel
theorem dL_law_248 : decode cL_law 248 = .ok (.iload_n 3, 1) := by decide +kernel
theorem dL_law_249 : decode cL_law 249 = .ok (.iconst 1, 1) := by decide +kernel
theorem dL_law_250 : decode cL_law 250 = .ok (.iadd, 1) := by decide +kernel
theorem dL_law_251 : decode cL_law 251 = .ok (.iaload, 1) := by decide +kernel
theorem dL_law_252 : decode cL_law 252 = .ok (.aload_n 0, 1) := by decide +kernel
theorem dL_law_253 : decode cL_law 253 = .ok (.iload_n 3, 1) := by decide +kernel
theorem dL_law_254 : decode cL_law 254 = .ok (.iconst 2, 1) := by decide +kernel
theorem dL_law_255 : decode cL_law 255 = .ok (.iadd, 1) := by decide +kernel
theorem dL_law_256 : decode cL_law 256 = .ok (.iaload, 1) := by decide +kernel
theorem dL_law_257 : decode cL_law 257 = .ok (.invokevirtual 29, 3) := by decide +kernel
theorem dL_law_260 : decode cL_law 260 = .ok (.if_icmp .eq 685, 3) := by decide +kernel
theorem dL_law_263 : decode cL_law 263 = .ok (.iconst 0, 1) := by decide +kernel
theorem dL_law_264 : decode cL_law 264 = .ok (.ireturn, 1) := by decide +kernel
theorem dL_law_265 : decode cL_law 265 = .ok (.aload_n 1, 1) := by decide +kernel
theorem dL_law_266 : decode cL_law 266 = .ok (.aload_n 0, 1) := by decide +kernel
theorem dL_law_267 : decode cL_law 267 = .ok (.iload_n 3, 1) := by decide +kernel
theorem dL_law_268 : decode cL_law 268 = .ok (.iconst 1, 1) := by decide +kernel
theorem dL_law_269 : decode cL_law 269 = .ok (.iadd, 1) := by decide +kernel
theorem dL_law_270 : decode cL_law 270 = .ok (.iaload, 1) := by decide +kernel
theorem dL_law_271 : decode cL_law 271 = .ok (.invokevirtual 30, 3) := by decide +kernel
theorem dL_law_274 : decode cL_law 274 = .ok (.aload_n 2, 1) := by decide +kernel
theorem dL_law_275 : decode cL_law 275 = .ok (.aload_n 0, 1) := by decide +kernel
theorem dL_law_276 : decode cL_law 276 = .ok (.iload_n 3, 1) := by decide +kernel
theorem dL_law_277 : decode cL_law 277 = .ok (.iconst 1, 1) := by decide +kernel
theorem dL_law_278 : decode cL_law 278 = .ok (.iadd, 1) := by decide +kernel
theorem dL_law_279 : decode cL_law 279 = .ok (.iaload, 1) := by decide +kernel
theorem dL_law_280 : decode cL_law 280 = .ok (.invokevirtual 34, 3) := by decide +kernel
theorem dL_law_283 : decode cL_law 283 = .ok (.if_icmp .eq 662, 3) := by decide +kernel
theorem dL_law_286 : decode cL_law 286 = .ok (.iconst 0, 1) := by decide +kernel
theorem dL_law_287 : decode cL_law 287 = .ok (.ireturn, 1) := by decide +kernel
theorem dL_law_288 : decode cL_law 288 = .ok (.aload_n 1, 1) := by decide +kernel
theorem dL_law_289 : decode cL_law 289 = .ok (.aload_n 0, 1) := by decide +kernel
theorem dL_law_290 : decode cL_law 290 = .ok (.iload_n 3, 1) := by decide +kernel
theorem dL_law_291 : decode cL_law 291 = .ok (.iconst 1, 1) := by decide +kernel
theorem dL_law_292 : decode cL_law 292 = .ok (.iadd, 1) := by decide +kernel
theorem dL_law_293 : decode cL_law 293 = .ok (.iaload, 1) := by decide +kernel
theorem dL_law_294 : decode cL_law 294 = .ok (.aload_n 0, 1) := by decide +kernel
theorem dL_law_295 : decode cL_law 295 = .ok (.iload_n 3, 1) := by decide +kernel
theorem dL_law_296 : decode cL_law 296 = .ok (.iconst 2, 1) := by decide +kernel
theorem dL_law_297 : decode cL_law 297 = .ok (.iadd, 1) := by decide +kernel
theorem dL_law_298 : decode cL_law 298 = .ok (.iaload, 1) := by decide +kernel
theorem dL_law_299 : decode cL_law 299 = .ok (.invokevirtual 35, 3) := by decide +kernel
theorem dL_law_302 : decode cL_law 302 = .ok (.aload_n 2, 1) := by decide +kernel
theorem dL_law_303 : decode cL_law 303 = .ok (.aload_n 0, 1) := by decide +kernel
theorem dL_law_304 : decode cL_law 304 = .ok (.iload_n 3, 1) := by decide +kernel
theorem dL_law_305 : decode cL_law 305 = .ok (.iconst 1, 1) := by decide +kernel
theorem dL_law_306 : decode cL_law 306 = .ok (.iadd, 1) := by decide +kernel
theorem dL_law_307 : decode cL_law 307 = .ok (.iaload, 1) := by decide +kernel
theorem dL_law_308 : decode cL_law 308 = .ok (.aload_n 0, 1) := by decide +kernel
theorem dL_law_309 : decode cL_law 309 = .ok (.iload_n 3, 1) := by decide +kernel
theorem dL_law_310 : decode cL_law 310 = .ok (.iconst 2, 1) := by decide +kernel
theorem dL_law_311 : decode cL_law 311 = .ok (.iadd, 1) := by decide +kernel
theorem dL_law_312 : decode cL_law 312 = .ok (.iaload, 1) := by decide +kernel
theorem dL_law_313 : decode cL_law 313 = .ok (.invokevirtual 38, 3) := by decide +kernel
theorem dL_law_316 : decode cL_law 316 = .ok (.if_icmp .eq 629, 3) := by decide +kernel
theorem dL_law_319 : decode cL_law 319 = .ok (.iconst 0, 1) := by decide +kernel
theorem dL_law_320 : decode cL_law 320 = .ok (.ireturn, 1) := by decide +kernel
theorem dL_law_321 : decode cL_law 321 = .ok (.aload_n 1, 1) := by decide +kernel
theorem dL_law_322 : decode cL_law 322 = .ok (.aload_n 0, 1) := by decide +kernel
theorem dL_law_323 : decode cL_law 323 = .ok (.iload_n 3, 1) := by decide +kernel
theorem dL_law_324 : decode cL_law 324 = .ok (.iconst 1, 1) := by decide +kernel
theorem dL_law_325 : decode cL_law 325 = .ok (.iadd, 1) := by decide +kernel
theorem dL_law_326 : decode cL_law 326 = .ok (.iaload, 1) := by decide +kernel
theorem dL_law_327 : decode cL_law 327 = .ok (.aload_n 0, 1) := by decide +kernel
theorem dL_law_328 : decode cL_law 328 = .ok (.iload_n 3, 1) := by decide +kernel
theorem dL_law_329 : decode cL_law 329 = .ok (.iconst 2, 1) := by decide +kernel
theorem dL_law_330 : decode cL_law 330 = .ok (.iadd, 1) := by decide +kernel
theorem dL_law_331 : decode cL_law 331 = .ok (.iaload, 1) := by decide +kernel
theorem dL_law_332 : decode cL_law 332 = .ok (.invokevirtual 39, 3) := by decide +kernel
theorem dL_law_335 : decode cL_law 335 = .ok (.aload_n 2, 1) := by decide +kernel
theorem dL_law_336 : decode cL_law 336 = .ok (.aload_n 0, 1) := by decide +kernel
theorem dL_law_337 : decode cL_law 337 = .ok (.iload_n 3, 1) := by decide +kernel
theorem dL_law_338 : decode cL_law 338 = .ok (.iconst 1, 1) := by decide +kernel
theorem dL_law_339 : decode cL_law 339 = .ok (.iadd, 1) := by decide +kernel
theorem dL_law_340 : decode cL_law 340 = .ok (.iaload, 1) := by decide +kernel
theorem dL_law_341 : decode cL_law 341 = .ok (.aload_n 0, 1) := by decide +kernel
theorem dL_law_342 : decode cL_law 342 = .ok (.iload_n 3, 1) := by decide +kernel
theorem dL_law_343 : decode cL_law 343 = .ok (.iconst 2, 1) := by decide +kernel
theorem dL_law_344 : decode cL_law 344 = .ok (.iadd, 1) := by decide +kernel
theorem dL_law_345 : decode cL_law 345 = .ok (.iaload, 1) := by decide +kernel
theorem dL_law_346 : decode cL_law 346 = .ok (.invokevirtual 42, 3) := by decide +kernel
theorem dL_law_349 : decode cL_law 349 = .ok (.if_icmp .eq 596, 3) := by decide +kernel
theorem dL_law_352 : decode cL_law 352 = .ok (.iconst 0, 1) := by decide +kernel
theorem dL_law_353 : decode cL_law 353 = .ok (.ireturn, 1) := by decide +kernel
theorem dL_law_354 : decode cL_law 354 = .ok (.aload_n 1, 1) := by decide +kernel
theorem dL_law_355 : decode cL_law 355 = .ok (.aload_n 0, 1) := by decide +kernel
theorem dL_law_356 : decode cL_law 356 = .ok (.iload_n 3, 1) := by decide +kernel
theorem dL_law_357 : decode cL_law 357 = .ok (.iconst 1, 1) := by decide +kernel
theorem dL_law_358 : decode cL_law 358 = .ok (.iadd, 1) := by decide +kernel
theorem dL_law_359 : decode cL_law 359 = .ok (.iaload, 1) := by decide +kernel
theorem dL_law_360 : decode cL_law 360 = .ok (.aload_n 0, 1) := by decide +kernel
theorem dL_law_361 : decode cL_law 361 = .ok (.iload_n 3, 1) := by decide +kernel
theorem dL_law_362 : decode cL_law 362 = .ok (.iconst 2, 1) := by decide +kernel
theorem dL_law_363 : decode cL_law 363 = .ok (.iadd, 1) := by decide +kernel
theorem dL_law_364 : decode cL_law 364 = .ok (.iaload, 1) := by decide +kernel
theorem dL_law_365 : decode cL_law 365 = .ok (.aload_n 0, 1) := by decide +kernel
theorem dL_law_366 : decode cL_law 366 = .ok (.iload_n 3, 1) := by decide +kernel
theorem dL_law_367 : decode cL_law 367 = .ok (.iconst 3, 1) := by decide +kernel
theorem dL_law_368 : decode cL_law 368 = .ok (.iadd, 1) := by decide +kernel
theorem dL_law_369 : decode cL_law 369 = .ok (.iaload, 1) := by decide +kernel
theorem dL_law_370 : decode cL_law 370 = .ok (.invokevirtual 43, 3) := by decide +kernel
theorem dL_law_373 : decode cL_law 373 = .ok (.aload_n 2, 1) := by decide +kernel
theorem dL_law_374 : decode cL_law 374 = .ok (.aload_n 0, 1) := by decide +kernel
theorem dL_law_375 : decode cL_law 375 = .ok (.iload_n 3, 1) := by decide +kernel
theorem dL_law_376 : decode cL_law 376 = .ok (.iconst 1, 1) := by decide +kernel
theorem dL_law_377 : decode cL_law 377 = .ok (.iadd, 1) := by decide +kernel
theorem dL_law_378 : decode cL_law 378 = .ok (.iaload, 1) := by decide +kernel
theorem dL_law_379 : decode cL_law 379 = .ok (.aload_n 0, 1) := by decide +kernel
theorem dL_law_380 : decode cL_law 380 = .ok (.iload_n 3, 1) := by decide +kernel
theorem dL_law_381 : decode cL_law 381 = .ok (.iconst 2, 1) := by decide +kernel
theorem dL_law_382 : decode cL_law 382 = .ok (.iadd, 1) := by decide +kernel
theorem dL_law_383 : decode cL_law 383 = .ok (.iaload, 1) := by decide +kernel
theorem dL_law_384 : decode cL_law 384 = .ok (.aload_n 0, 1) := by decide +kernel
theorem dL_law_385 : decode cL_law 385 = .ok (.iload_n 3, 1) := by decide +kernel
theorem dL_law_386 : decode cL_law 386 = .ok (.iconst 3, 1) := by decide +kernel
theorem dL_law_387 : decode cL_law 387 = .ok (.iadd, 1) := by decide +kernel
theorem dL_law_388 : decode cL_law 388 = .ok (.iaload, 1) := by decide +kernel
theorem dL_law_389 : decode cL_law 389 = .ok (.invokevirtual 47, 3) := by decide +kernel
theorem dL_law_392 : decode cL_law 392 = .ok (.if_icmp .eq 553, 3) := by decide +kernel
theorem dL_law_395 : decode cL_law 395 = .ok (.iconst 0, 1) := by decide +kernel
theorem dL_law_396 : decode cL_law 396 = .ok (.ireturn, 1) := by decide +kernel
theorem dL_law_397 : decode cL_law 397 = .ok (.aload_n 1, 1) := by decide +kernel
theorem dL_law_398 : decode cL_law 398 = .ok (.aload_n 0, 1) := by decide +kernel
theorem dL_law_399 : decode cL_law 399 = .ok (.iload_n 3, 1) := by decide +kernel
theorem dL_law_400 : decode cL_law 400 = .ok (.iconst 1, 1) := by decide +kernel
theorem dL_law_401 : decode cL_law 401 = .ok (.iadd, 1) := by decide +kernel
theorem dL_law_402 : decode cL_law 402 = .ok (.iaload, 1) := by decide +kernel
theorem dL_law_403 : decode cL_law 403 = .ok (.aload_n 0, 1) := by decide +kernel
theorem dL_law_404 : decode cL_law 404 = .ok (.iload_n 3, 1) := by decide +kernel
theorem dL_law_405 : decode cL_law 405 = .ok (.iconst 2, 1) := by decide +kernel
theorem dL_law_406 : decode cL_law 406 = .ok (.iadd, 1) := by decide +kernel
theorem dL_law_407 : decode cL_law 407 = .ok (.iaload, 1) := by decide +kernel
theorem dL_law_408 : decode cL_law 408 = .ok (.aload_n 0, 1) := by decide +kernel
theorem dL_law_409 : decode cL_law 409 = .ok (.iload_n 3, 1) := by decide +kernel
theorem dL_law_410 : decode cL_law 410 = .ok (.iconst 3, 1) := by decide +kernel
theorem dL_law_411 : decode cL_law 411 = .ok (.iadd, 1) := by decide +kernel
theorem dL_law_412 : decode cL_law 412 = .ok (.iaload, 1) := by decide +kernel
theorem dL_law_413 : decode cL_law 413 = .ok (.aload_n 0, 1) := by decide +kernel
theorem dL_law_414 : decode cL_law 414 = .ok (.iload_n 3, 1) := by decide +kernel
theorem dL_law_415 : decode cL_law 415 = .ok (.iconst 4, 1) := by decide +kernel
theorem dL_law_416 : decode cL_law 416 = .ok (.iadd, 1) := by decide +kernel
theorem dL_law_417 : decode cL_law 417 = .ok (.iaload, 1) := by decide +kernel
theorem dL_law_418 : decode cL_law 418 = .ok (.invokevirtual 48, 3) := by decide +kernel
theorem dL_law_421 : decode cL_law 421 = .ok (.aload_n 2, 1) := by decide +kernel
theorem dL_law_422 : decode cL_law 422 = .ok (.aload_n 0, 1) := by decide +kernel
theorem dL_law_423 : decode cL_law 423 = .ok (.iload_n 3, 1) := by decide +kernel
theorem dL_law_424 : decode cL_law 424 = .ok (.iconst 1, 1) := by decide +kernel
theorem dL_law_425 : decode cL_law 425 = .ok (.iadd, 1) := by decide +kernel
theorem dL_law_426 : decode cL_law 426 = .ok (.iaload, 1) := by decide +kernel
theorem dL_law_427 : decode cL_law 427 = .ok (.aload_n 0, 1) := by decide +kernel
theorem dL_law_428 : decode cL_law 428 = .ok (.iload_n 3, 1) := by decide +kernel
theorem dL_law_429 : decode cL_law 429 = .ok (.iconst 2, 1) := by decide +kernel
theorem dL_law_430 : decode cL_law 430 = .ok (.iadd, 1) := by decide +kernel
theorem dL_law_431 : decode cL_law 431 = .ok (.iaload, 1) := by decide +kernel
theorem dL_law_432 : decode cL_law 432 = .ok (.aload_n 0, 1) := by decide +kernel
theorem dL_law_433 : decode cL_law 433 = .ok (.iload_n 3, 1) := by decide +kernel
theorem dL_law_434 : decode cL_law 434 = .ok (.iconst 3, 1) := by decide +kernel
theorem dL_law_435 : decode cL_law 435 = .ok (.iadd, 1) := by decide +kernel
theorem dL_law_436 : decode cL_law 436 = .ok (.iaload, 1) := by decide +kernel
theorem dL_law_437 : decode cL_law 437 = .ok (.aload_n 0, 1) := by decide +kernel
theorem dL_law_438 : decode cL_law 438 = .ok (.iload_n 3, 1) := by decide +kernel
theorem dL_law_439 : decode cL_law 439 = .ok (.iconst 4, 1) := by decide +kernel
theorem dL_law_440 : decode cL_law 440 = .ok (.iadd, 1) := by decide +kernel
theorem dL_law_441 : decode cL_law 441 = .ok (.iaload, 1) := by decide +kernel
theorem dL_law_442 : decode cL_law 442 = .ok (.invokevirtual 52, 3) := by decide +kernel
theorem dL_law_445 : decode cL_law 445 = .ok (.if_icmp .eq 500, 3) := by decide +kernel
theorem dL_law_448 : decode cL_law 448 = .ok (.iconst 0, 1) := by decide +kernel
theorem dL_law_449 : decode cL_law 449 = .ok (.ireturn, 1) := by decide +kernel
theorem dL_law_450 : decode cL_law 450 = .ok (.aload_n 1, 1) := by decide +kernel
theorem dL_law_451 : decode cL_law 451 = .ok (.aload_n 0, 1) := by decide +kernel
theorem dL_law_452 : decode cL_law 452 = .ok (.iload_n 3, 1) := by decide +kernel
theorem dL_law_453 : decode cL_law 453 = .ok (.iconst 1, 1) := by decide +kernel
theorem dL_law_454 : decode cL_law 454 = .ok (.iadd, 1) := by decide +kernel
theorem dL_law_455 : decode cL_law 455 = .ok (.iaload, 1) := by decide +kernel
theorem dL_law_456 : decode cL_law 456 = .ok (.aload_n 0, 1) := by decide +kernel
theorem dL_law_457 : decode cL_law 457 = .ok (.iload_n 3, 1) := by decide +kernel
theorem dL_law_458 : decode cL_law 458 = .ok (.iconst 2, 1) := by decide +kernel
theorem dL_law_459 : decode cL_law 459 = .ok (.iadd, 1) := by decide +kernel
theorem dL_law_460 : decode cL_law 460 = .ok (.iaload, 1) := by decide +kernel
theorem dL_law_461 : decode cL_law 461 = .ok (.ifCond .eq 7, 3) := by decide +kernel
theorem dL_law_464 : decode cL_law 464 = .ok (.iconst 1, 1) := by decide +kernel
theorem dL_law_465 : decode cL_law 465 = .ok (.goto 4, 3) := by decide +kernel
theorem dL_law_468 : decode cL_law 468 = .ok (.iconst 0, 1) := by decide +kernel
theorem dL_law_469 : decode cL_law 469 = .ok (.invokevirtual 53, 3) := by decide +kernel
theorem dL_law_472 : decode cL_law 472 = .ok (.aload_n 2, 1) := by decide +kernel
theorem dL_law_473 : decode cL_law 473 = .ok (.aload_n 0, 1) := by decide +kernel
theorem dL_law_474 : decode cL_law 474 = .ok (.iload_n 3, 1) := by decide +kernel
theorem dL_law_475 : decode cL_law 475 = .ok (.iconst 1, 1) := by decide +kernel
theorem dL_law_476 : decode cL_law 476 = .ok (.iadd, 1) := by decide +kernel
theorem dL_law_477 : decode cL_law 477 = .ok (.iaload, 1) := by decide +kernel
theorem dL_law_478 : decode cL_law 478 = .ok (.aload_n 0, 1) := by decide +kernel
theorem dL_law_479 : decode cL_law 479 = .ok (.iload_n 3, 1) := by decide +kernel
theorem dL_law_480 : decode cL_law 480 = .ok (.iconst 2, 1) := by decide +kernel
theorem dL_law_481 : decode cL_law 481 = .ok (.iadd, 1) := by decide +kernel
theorem dL_law_482 : decode cL_law 482 = .ok (.iaload, 1) := by decide +kernel
theorem dL_law_483 : decode cL_law 483 = .ok (.ifCond .eq 7, 3) := by decide +kernel
theorem dL_law_486 : decode cL_law 486 = .ok (.iconst 1, 1) := by decide +kernel
theorem dL_law_487 : decode cL_law 487 = .ok (.goto 4, 3) := by decide +kernel
theorem dL_law_490 : decode cL_law 490 = .ok (.iconst 0, 1) := by decide +kernel
theorem dL_law_491 : decode cL_law 491 = .ok (.invokevirtual 57, 3) := by decide +kernel
theorem dL_law_494 : decode cL_law 494 = .ok (.if_icmp .eq 451, 3) := by decide +kernel
theorem dL_law_497 : decode cL_law 497 = .ok (.iconst 0, 1) := by decide +kernel
theorem dL_law_498 : decode cL_law 498 = .ok (.ireturn, 1) := by decide +kernel
theorem dL_law_499 : decode cL_law 499 = .ok (.aload_n 1, 1) := by decide +kernel
theorem dL_law_500 : decode cL_law 500 = .ok (.aload_n 0, 1) := by decide +kernel
theorem dL_law_501 : decode cL_law 501 = .ok (.iload_n 3, 1) := by decide +kernel
theorem dL_law_502 : decode cL_law 502 = .ok (.iconst 1, 1) := by decide +kernel
theorem dL_law_503 : decode cL_law 503 = .ok (.iadd, 1) := by decide +kernel
theorem dL_law_504 : decode cL_law 504 = .ok (.iaload, 1) := by decide +kernel
theorem dL_law_505 : decode cL_law 505 = .ok (.aload_n 0, 1) := by decide +kernel
theorem dL_law_506 : decode cL_law 506 = .ok (.iload_n 3, 1) := by decide +kernel
theorem dL_law_507 : decode cL_law 507 = .ok (.iconst 2, 1) := by decide +kernel
theorem dL_law_508 : decode cL_law 508 = .ok (.iadd, 1) := by decide +kernel
theorem dL_law_509 : decode cL_law 509 = .ok (.iaload, 1) := by decide +kernel
theorem dL_law_510 : decode cL_law 510 = .ok (.aload_n 0, 1) := by decide +kernel
theorem dL_law_511 : decode cL_law 511 = .ok (.iload_n 3, 1) := by decide +kernel
theorem dL_law_512 : decode cL_law 512 = .ok (.iconst 3, 1) := by decide +kernel
theorem dL_law_513 : decode cL_law 513 = .ok (.iadd, 1) := by decide +kernel
theorem dL_law_514 : decode cL_law 514 = .ok (.iaload, 1) := by decide +kernel
theorem dL_law_515 : decode cL_law 515 = .ok (.aload_n 0, 1) := by decide +kernel
theorem dL_law_516 : decode cL_law 516 = .ok (.iload_n 3, 1) := by decide +kernel
theorem dL_law_517 : decode cL_law 517 = .ok (.iconst 4, 1) := by decide +kernel
theorem dL_law_518 : decode cL_law 518 = .ok (.iadd, 1) := by decide +kernel
theorem dL_law_519 : decode cL_law 519 = .ok (.iaload, 1) := by decide +kernel
theorem dL_law_520 : decode cL_law 520 = .ok (.invokevirtual 58, 3) := by decide +kernel
theorem dL_law_523 : decode cL_law 523 = .ok (.aload_n 2, 1) := by decide +kernel
theorem dL_law_524 : decode cL_law 524 = .ok (.aload_n 0, 1) := by decide +kernel
theorem dL_law_525 : decode cL_law 525 = .ok (.iload_n 3, 1) := by decide +kernel
theorem dL_law_526 : decode cL_law 526 = .ok (.iconst 1, 1) := by decide +kernel
theorem dL_law_527 : decode cL_law 527 = .ok (.iadd, 1) := by decide +kernel
theorem dL_law_528 : decode cL_law 528 = .ok (.iaload, 1) := by decide +kernel
theorem dL_law_529 : decode cL_law 529 = .ok (.aload_n 0, 1) := by decide +kernel
theorem dL_law_530 : decode cL_law 530 = .ok (.iload_n 3, 1) := by decide +kernel
theorem dL_law_531 : decode cL_law 531 = .ok (.iconst 2, 1) := by decide +kernel
theorem dL_law_532 : decode cL_law 532 = .ok (.iadd, 1) := by decide +kernel
theorem dL_law_533 : decode cL_law 533 = .ok (.iaload, 1) := by decide +kernel
theorem dL_law_534 : decode cL_law 534 = .ok (.aload_n 0, 1) := by decide +kernel
theorem dL_law_535 : decode cL_law 535 = .ok (.iload_n 3, 1) := by decide +kernel
theorem dL_law_536 : decode cL_law 536 = .ok (.iconst 3, 1) := by decide +kernel
theorem dL_law_537 : decode cL_law 537 = .ok (.iadd, 1) := by decide +kernel
theorem dL_law_538 : decode cL_law 538 = .ok (.iaload, 1) := by decide +kernel
theorem dL_law_539 : decode cL_law 539 = .ok (.aload_n 0, 1) := by decide +kernel
theorem dL_law_540 : decode cL_law 540 = .ok (.iload_n 3, 1) := by decide +kernel
theorem dL_law_541 : decode cL_law 541 = .ok (.iconst 4, 1) := by decide +kernel
theorem dL_law_542 : decode cL_law 542 = .ok (.iadd, 1) := by decide +kernel
theorem dL_law_543 : decode cL_law 543 = .ok (.iaload, 1) := by decide +kernel
theorem dL_law_544 : decode cL_law 544 = .ok (.invokevirtual 61, 3) := by decide +kernel
theorem dL_law_547 : decode cL_law 547 = .ok (.if_icmp .eq 398, 3) := by decide +kernel
theorem dL_law_550 : decode cL_law 550 = .ok (.iconst 0, 1) := by decide +kernel
theorem dL_law_551 : decode cL_law 551 = .ok (.ireturn, 1) := by decide +kernel
theorem dL_law_552 : decode cL_law 552 = .ok (.aload_n 1, 1) := by decide +kernel
theorem dL_law_553 : decode cL_law 553 = .ok (.aload_n 0, 1) := by decide +kernel
theorem dL_law_554 : decode cL_law 554 = .ok (.iload_n 3, 1) := by decide +kernel
theorem dL_law_555 : decode cL_law 555 = .ok (.iconst 1, 1) := by decide +kernel
theorem dL_law_556 : decode cL_law 556 = .ok (.iadd, 1) := by decide +kernel
theorem dL_law_557 : decode cL_law 557 = .ok (.iaload, 1) := by decide +kernel
theorem dL_law_558 : decode cL_law 558 = .ok (.invokevirtual 62, 3) := by decide +kernel
theorem dL_law_561 : decode cL_law 561 = .ok (.aload_n 2, 1) := by decide +kernel
theorem dL_law_562 : decode cL_law 562 = .ok (.aload_n 0, 1) := by decide +kernel
theorem dL_law_563 : decode cL_law 563 = .ok (.iload_n 3, 1) := by decide +kernel
theorem dL_law_564 : decode cL_law 564 = .ok (.iconst 1, 1) := by decide +kernel
theorem dL_law_565 : decode cL_law 565 = .ok (.iadd, 1) := by decide +kernel
theorem dL_law_566 : decode cL_law 566 = .ok (.iaload, 1) := by decide +kernel
theorem dL_law_567 : decode cL_law 567 = .ok (.invokevirtual 65, 3) := by decide +kernel
theorem dL_law_570 : decode cL_law 570 = .ok (.if_icmp .eq 375, 3) := by decide +kernel
theorem dL_law_573 : decode cL_law 573 = .ok (.iconst 0, 1) := by decide +kernel
theorem dL_law_574 : decode cL_law 574 = .ok (.ireturn, 1) := by decide +kernel
theorem dL_law_575 : decode cL_law 575 = .ok (.aload_n 1, 1) := by decide +kernel
theorem dL_law_576 : decode cL_law 576 = .ok (.aload_n 0, 1) := by decide +kernel
theorem dL_law_577 : decode cL_law 577 = .ok (.iload_n 3, 1) := by decide +kernel
theorem dL_law_578 : decode cL_law 578 = .ok (.iconst 1, 1) := by decide +kernel
theorem dL_law_579 : decode cL_law 579 = .ok (.iadd, 1) := by decide +kernel
theorem dL_law_580 : decode cL_law 580 = .ok (.iaload, 1) := by decide +kernel
theorem dL_law_581 : decode cL_law 581 = .ok (.aload_n 0, 1) := by decide +kernel
theorem dL_law_582 : decode cL_law 582 = .ok (.iload_n 3, 1) := by decide +kernel
theorem dL_law_583 : decode cL_law 583 = .ok (.iconst 2, 1) := by decide +kernel
theorem dL_law_584 : decode cL_law 584 = .ok (.iadd, 1) := by decide +kernel
theorem dL_law_585 : decode cL_law 585 = .ok (.iaload, 1) := by decide +kernel
theorem dL_law_586 : decode cL_law 586 = .ok (.invokevirtual 66, 3) := by decide +kernel
theorem dL_law_589 : decode cL_law 589 = .ok (.aload_n 2, 1) := by decide +kernel
theorem dL_law_590 : decode cL_law 590 = .ok (.aload_n 0, 1) := by decide +kernel
theorem dL_law_591 : decode cL_law 591 = .ok (.iload_n 3, 1) := by decide +kernel
theorem dL_law_592 : decode cL_law 592 = .ok (.iconst 1, 1) := by decide +kernel
theorem dL_law_593 : decode cL_law 593 = .ok (.iadd, 1) := by decide +kernel
theorem dL_law_594 : decode cL_law 594 = .ok (.iaload, 1) := by decide +kernel
theorem dL_law_595 : decode cL_law 595 = .ok (.aload_n 0, 1) := by decide +kernel
theorem dL_law_596 : decode cL_law 596 = .ok (.iload_n 3, 1) := by decide +kernel
theorem dL_law_597 : decode cL_law 597 = .ok (.iconst 2, 1) := by decide +kernel
theorem dL_law_598 : decode cL_law 598 = .ok (.iadd, 1) := by decide +kernel
theorem dL_law_599 : decode cL_law 599 = .ok (.iaload, 1) := by decide +kernel
theorem dL_law_600 : decode cL_law 600 = .ok (.invokevirtual 69, 3) := by decide +kernel
theorem dL_law_603 : decode cL_law 603 = .ok (.if_icmp .eq 342, 3) := by decide +kernel
theorem dL_law_606 : decode cL_law 606 = .ok (.iconst 0, 1) := by decide +kernel
theorem dL_law_607 : decode cL_law 607 = .ok (.ireturn, 1) := by decide +kernel
theorem dL_law_608 : decode cL_law 608 = .ok (.aload_n 1, 1) := by decide +kernel
theorem dL_law_609 : decode cL_law 609 = .ok (.invokevirtual 70, 3) := by decide +kernel
theorem dL_law_612 : decode cL_law 612 = .ok (.aload_n 2, 1) := by decide +kernel
theorem dL_law_613 : decode cL_law 613 = .ok (.invokevirtual 74, 3) := by decide +kernel
theorem dL_law_616 : decode cL_law 616 = .ok (.lcmp, 1) := by decide +kernel
theorem dL_law_617 : decode cL_law 617 = .ok (.ifCond .eq 328, 3) := by decide +kernel
theorem dL_law_620 : decode cL_law 620 = .ok (.iconst 0, 1) := by decide +kernel
theorem dL_law_621 : decode cL_law 621 = .ok (.ireturn, 1) := by decide +kernel
theorem dL_law_622 : decode cL_law 622 = .ok (.aload_n 1, 1) := by decide +kernel
theorem dL_law_623 : decode cL_law 623 = .ok (.aload_n 0, 1) := by decide +kernel
theorem dL_law_624 : decode cL_law 624 = .ok (.iload_n 3, 1) := by decide +kernel
theorem dL_law_625 : decode cL_law 625 = .ok (.iconst 1, 1) := by decide +kernel
theorem dL_law_626 : decode cL_law 626 = .ok (.iadd, 1) := by decide +kernel
theorem dL_law_627 : decode cL_law 627 = .ok (.iaload, 1) := by decide +kernel
theorem dL_law_628 : decode cL_law 628 = .ok (.invokevirtual 75, 3) := by decide +kernel
theorem dL_law_631 : decode cL_law 631 = .ok (.aload_n 2, 1) := by decide +kernel
theorem dL_law_632 : decode cL_law 632 = .ok (.aload_n 0, 1) := by decide +kernel
theorem dL_law_633 : decode cL_law 633 = .ok (.iload_n 3, 1) := by decide +kernel
theorem dL_law_634 : decode cL_law 634 = .ok (.iconst 1, 1) := by decide +kernel
theorem dL_law_635 : decode cL_law 635 = .ok (.iadd, 1) := by decide +kernel
theorem dL_law_636 : decode cL_law 636 = .ok (.iaload, 1) := by decide +kernel
theorem dL_law_637 : decode cL_law 637 = .ok (.invokevirtual 78, 3) := by decide +kernel
theorem dL_law_640 : decode cL_law 640 = .ok (.if_icmp .eq 305, 3) := by decide +kernel
theorem dL_law_643 : decode cL_law 643 = .ok (.iconst 0, 1) := by decide +kernel
theorem dL_law_644 : decode cL_law 644 = .ok (.ireturn, 1) := by decide +kernel
theorem dL_law_645 : decode cL_law 645 = .ok (.aload_n 1, 1) := by decide +kernel
theorem dL_law_646 : decode cL_law 646 = .ok (.aload_n 0, 1) := by decide +kernel
theorem dL_law_647 : decode cL_law 647 = .ok (.iload_n 3, 1) := by decide +kernel
theorem dL_law_648 : decode cL_law 648 = .ok (.iconst 1, 1) := by decide +kernel
theorem dL_law_649 : decode cL_law 649 = .ok (.iadd, 1) := by decide +kernel
theorem dL_law_650 : decode cL_law 650 = .ok (.iaload, 1) := by decide +kernel
theorem dL_law_651 : decode cL_law 651 = .ok (.aload_n 0, 1) := by decide +kernel
theorem dL_law_652 : decode cL_law 652 = .ok (.iload_n 3, 1) := by decide +kernel
theorem dL_law_653 : decode cL_law 653 = .ok (.iconst 2, 1) := by decide +kernel
theorem dL_law_654 : decode cL_law 654 = .ok (.iadd, 1) := by decide +kernel
theorem dL_law_655 : decode cL_law 655 = .ok (.iaload, 1) := by decide +kernel
theorem dL_law_656 : decode cL_law 656 = .ok (.aload_n 0, 1) := by decide +kernel
theorem dL_law_657 : decode cL_law 657 = .ok (.iload_n 3, 1) := by decide +kernel
theorem dL_law_658 : decode cL_law 658 = .ok (.iconst 3, 1) := by decide +kernel
theorem dL_law_659 : decode cL_law 659 = .ok (.iadd, 1) := by decide +kernel
theorem dL_law_660 : decode cL_law 660 = .ok (.iaload, 1) := by decide +kernel
theorem dL_law_661 : decode cL_law 661 = .ok (.invokevirtual 79, 3) := by decide +kernel
theorem dL_law_664 : decode cL_law 664 = .ok (.aload_n 2, 1) := by decide +kernel
theorem dL_law_665 : decode cL_law 665 = .ok (.aload_n 0, 1) := by decide +kernel
theorem dL_law_666 : decode cL_law 666 = .ok (.iload_n 3, 1) := by decide +kernel
theorem dL_law_667 : decode cL_law 667 = .ok (.iconst 1, 1) := by decide +kernel
theorem dL_law_668 : decode cL_law 668 = .ok (.iadd, 1) := by decide +kernel
theorem dL_law_669 : decode cL_law 669 = .ok (.iaload, 1) := by decide +kernel
theorem dL_law_670 : decode cL_law 670 = .ok (.aload_n 0, 1) := by decide +kernel
theorem dL_law_671 : decode cL_law 671 = .ok (.iload_n 3, 1) := by decide +kernel
theorem dL_law_672 : decode cL_law 672 = .ok (.iconst 2, 1) := by decide +kernel
theorem dL_law_673 : decode cL_law 673 = .ok (.iadd, 1) := by decide +kernel
theorem dL_law_674 : decode cL_law 674 = .ok (.iaload, 1) := by decide +kernel
theorem dL_law_675 : decode cL_law 675 = .ok (.aload_n 0, 1) := by decide +kernel
theorem dL_law_676 : decode cL_law 676 = .ok (.iload_n 3, 1) := by decide +kernel
theorem dL_law_677 : decode cL_law 677 = .ok (.iconst 3, 1) := by decide +kernel
theorem dL_law_678 : decode cL_law 678 = .ok (.iadd, 1) := by decide +kernel
theorem dL_law_679 : decode cL_law 679 = .ok (.iaload, 1) := by decide +kernel
theorem dL_law_680 : decode cL_law 680 = .ok (.invokevirtual 82, 3) := by decide +kernel
theorem dL_law_683 : decode cL_law 683 = .ok (.if_icmp .eq 262, 3) := by decide +kernel
theorem dL_law_686 : decode cL_law 686 = .ok (.iconst 0, 1) := by decide +kernel
theorem dL_law_687 : decode cL_law 687 = .ok (.ireturn, 1) := by decide +kernel
theorem dL_law_688 : decode cL_law 688 = .ok (.aload_n 1, 1) := by decide +kernel
theorem dL_law_689 : decode cL_law 689 = .ok (.aload_n 0, 1) := by decide +kernel
theorem dL_law_690 : decode cL_law 690 = .ok (.iload_n 3, 1) := by decide +kernel
theorem dL_law_691 : decode cL_law 691 = .ok (.iconst 1, 1) := by decide +kernel
theorem dL_law_692 : decode cL_law 692 = .ok (.iadd, 1) := by decide +kernel
theorem dL_law_693 : decode cL_law 693 = .ok (.iaload, 1) := by decide +kernel
theorem dL_law_694 : decode cL_law 694 = .ok (.aload_n 0, 1) := by decide +kernel
theorem dL_law_695 : decode cL_law 695 = .ok (.iload_n 3, 1) := by decide +kernel
theorem dL_law_696 : decode cL_law 696 = .ok (.iconst 2, 1) := by decide +kernel
theorem dL_law_697 : decode cL_law 697 = .ok (.iadd, 1) := by decide +kernel
theorem dL_law_698 : decode cL_law 698 = .ok (.iaload, 1) := by decide +kernel
theorem dL_law_699 : decode cL_law 699 = .ok (.aload_n 0, 1) := by decide +kernel
theorem dL_law_700 : decode cL_law 700 = .ok (.iload_n 3, 1) := by decide +kernel
theorem dL_law_701 : decode cL_law 701 = .ok (.iconst 3, 1) := by decide +kernel
theorem dL_law_702 : decode cL_law 702 = .ok (.iadd, 1) := by decide +kernel
theorem dL_law_703 : decode cL_law 703 = .ok (.iaload, 1) := by decide +kernel
theorem dL_law_704 : decode cL_law 704 = .ok (.invokevirtual 83, 3) := by decide +kernel
theorem dL_law_707 : decode cL_law 707 = .ok (.aload_n 2, 1) := by decide +kernel
theorem dL_law_708 : decode cL_law 708 = .ok (.aload_n 0, 1) := by decide +kernel
theorem dL_law_709 : decode cL_law 709 = .ok (.iload_n 3, 1) := by decide +kernel
theorem dL_law_710 : decode cL_law 710 = .ok (.iconst 1, 1) := by decide +kernel
theorem dL_law_711 : decode cL_law 711 = .ok (.iadd, 1) := by decide +kernel
theorem dL_law_712 : decode cL_law 712 = .ok (.iaload, 1) := by decide +kernel
theorem dL_law_713 : decode cL_law 713 = .ok (.aload_n 0, 1) := by decide +kernel
theorem dL_law_714 : decode cL_law 714 = .ok (.iload_n 3, 1) := by decide +kernel
theorem dL_law_715 : decode cL_law 715 = .ok (.iconst 2, 1) := by decide +kernel
theorem dL_law_716 : decode cL_law 716 = .ok (.iadd, 1) := by decide +kernel
theorem dL_law_717 : decode cL_law 717 = .ok (.iaload, 1) := by decide +kernel
theorem dL_law_718 : decode cL_law 718 = .ok (.aload_n 0, 1) := by decide +kernel
theorem dL_law_719 : decode cL_law 719 = .ok (.iload_n 3, 1) := by decide +kernel
theorem dL_law_720 : decode cL_law 720 = .ok (.iconst 3, 1) := by decide +kernel
theorem dL_law_721 : decode cL_law 721 = .ok (.iadd, 1) := by decide +kernel
theorem dL_law_722 : decode cL_law 722 = .ok (.iaload, 1) := by decide +kernel
theorem dL_law_723 : decode cL_law 723 = .ok (.invokevirtual 87, 3) := by decide +kernel
theorem dL_law_726 : decode cL_law 726 = .ok (.lcmp, 1) := by decide +kernel
theorem dL_law_727 : decode cL_law 727 = .ok (.ifCond .eq 218, 3) := by decide +kernel
theorem dL_law_730 : decode cL_law 730 = .ok (.iconst 0, 1) := by decide +kernel
theorem dL_law_731 : decode cL_law 731 = .ok (.ireturn, 1) := by decide +kernel
theorem dL_law_732 : decode cL_law 732 = .ok (.aload_n 1, 1) := by decide +kernel
theorem dL_law_733 : decode cL_law 733 = .ok (.aload_n 0, 1) := by decide +kernel
theorem dL_law_734 : decode cL_law 734 = .ok (.iload_n 3, 1) := by decide +kernel
theorem dL_law_735 : decode cL_law 735 = .ok (.iconst 1, 1) := by decide +kernel
theorem dL_law_736 : decode cL_law 736 = .ok (.iadd, 1) := by decide +kernel
theorem dL_law_737 : decode cL_law 737 = .ok (.iaload, 1) := by decide +kernel
theorem dL_law_738 : decode cL_law 738 = .ok (.invokevirtual 88, 3) := by decide +kernel
theorem dL_law_741 : decode cL_law 741 = .ok (.aload_n 2, 1) := by decide +kernel
theorem dL_law_742 : decode cL_law 742 = .ok (.aload_n 0, 1) := by decide +kernel
theorem dL_law_743 : decode cL_law 743 = .ok (.iload_n 3, 1) := by decide +kernel
theorem dL_law_744 : decode cL_law 744 = .ok (.iconst 1, 1) := by decide +kernel
theorem dL_law_745 : decode cL_law 745 = .ok (.iadd, 1) := by decide +kernel
theorem dL_law_746 : decode cL_law 746 = .ok (.iaload, 1) := by decide +kernel
theorem dL_law_747 : decode cL_law 747 = .ok (.invokevirtual 91, 3) := by decide +kernel
theorem dL_law_750 : decode cL_law 750 = .ok (.if_icmp .eq 195, 3) := by decide +kernel
theorem dL_law_753 : decode cL_law 753 = .ok (.iconst 0, 1) := by decide +kernel
theorem dL_law_754 : decode cL_law 754 = .ok (.ireturn, 1) := by decide +kernel
theorem dL_law_755 : decode cL_law 755 = .ok (.aload_n 1, 1) := by decide +kernel
theorem dL_law_756 : decode cL_law 756 = .ok (.invokevirtual 92, 3) := by decide +kernel
theorem dL_law_759 : decode cL_law 759 = .ok (.aload_n 2, 1) := by decide +kernel
theorem dL_law_760 : decode cL_law 760 = .ok (.invokevirtual 95, 3) := by decide +kernel
theorem dL_law_763 : decode cL_law 763 = .ok (.if_icmp .eq 182, 3) := by decide +kernel
theorem dL_law_766 : decode cL_law 766 = .ok (.iconst 0, 1) := by decide +kernel
theorem dL_law_767 : decode cL_law 767 = .ok (.ireturn, 1) := by decide +kernel
theorem dL_law_768 : decode cL_law 768 = .ok (.aload_n 1, 1) := by decide +kernel
theorem dL_law_769 : decode cL_law 769 = .ok (.invokevirtual 96, 3) := by decide +kernel
theorem dL_law_772 : decode cL_law 772 = .ok (.aload_n 2, 1) := by decide +kernel
theorem dL_law_773 : decode cL_law 773 = .ok (.invokevirtual 99, 3) := by decide +kernel
theorem dL_law_776 : decode cL_law 776 = .ok (.if_icmp .eq 169, 3) := by decide +kernel
theorem dL_law_779 : decode cL_law 779 = .ok (.iconst 0, 1) := by decide +kernel
theorem dL_law_780 : decode cL_law 780 = .ok (.ireturn, 1) := by decide +kernel
theorem dL_law_781 : decode cL_law 781 = .ok (.aload_n 1, 1) := by decide +kernel
theorem dL_law_782 : decode cL_law 782 = .ok (.invokevirtual 100, 3) := by decide +kernel
theorem dL_law_785 : decode cL_law 785 = .ok (.aload_n 2, 1) := by decide +kernel
theorem dL_law_786 : decode cL_law 786 = .ok (.invokevirtual 103, 3) := by decide +kernel
theorem dL_law_789 : decode cL_law 789 = .ok (.if_icmp .eq 156, 3) := by decide +kernel
theorem dL_law_792 : decode cL_law 792 = .ok (.iconst 0, 1) := by decide +kernel
theorem dL_law_793 : decode cL_law 793 = .ok (.ireturn, 1) := by decide +kernel
theorem dL_law_794 : decode cL_law 794 = .ok (.aload_n 1, 1) := by decide +kernel
theorem dL_law_795 : decode cL_law 795 = .ok (.invokevirtual 104, 3) := by decide +kernel
theorem dL_law_798 : decode cL_law 798 = .ok (.aload_n 2, 1) := by decide +kernel
theorem dL_law_799 : decode cL_law 799 = .ok (.invokevirtual 107, 3) := by decide +kernel
theorem dL_law_802 : decode cL_law 802 = .ok (.if_icmp .eq 143, 3) := by decide +kernel
theorem dL_law_805 : decode cL_law 805 = .ok (.iconst 0, 1) := by decide +kernel
theorem dL_law_806 : decode cL_law 806 = .ok (.ireturn, 1) := by decide +kernel
theorem dL_law_807 : decode cL_law 807 = .ok (.aload_n 1, 1) := by decide +kernel
theorem dL_law_808 : decode cL_law 808 = .ok (.aload_n 0, 1) := by decide +kernel
theorem dL_law_809 : decode cL_law 809 = .ok (.iload_n 3, 1) := by decide +kernel
theorem dL_law_810 : decode cL_law 810 = .ok (.iconst 1, 1) := by decide +kernel
theorem dL_law_811 : decode cL_law 811 = .ok (.iadd, 1) := by decide +kernel
theorem dL_law_812 : decode cL_law 812 = .ok (.iaload, 1) := by decide +kernel
theorem dL_law_813 : decode cL_law 813 = .ok (.aload_n 0, 1) := by decide +kernel
theorem dL_law_814 : decode cL_law 814 = .ok (.iload_n 3, 1) := by decide +kernel
theorem dL_law_815 : decode cL_law 815 = .ok (.iconst 2, 1) := by decide +kernel
theorem dL_law_816 : decode cL_law 816 = .ok (.iadd, 1) := by decide +kernel
theorem dL_law_817 : decode cL_law 817 = .ok (.iaload, 1) := by decide +kernel
theorem dL_law_818 : decode cL_law 818 = .ok (.invokevirtual 108, 3) := by decide +kernel
theorem dL_law_821 : decode cL_law 821 = .ok (.aload_n 2, 1) := by decide +kernel
theorem dL_law_822 : decode cL_law 822 = .ok (.aload_n 0, 1) := by decide +kernel
theorem dL_law_823 : decode cL_law 823 = .ok (.iload_n 3, 1) := by decide +kernel
theorem dL_law_824 : decode cL_law 824 = .ok (.iconst 1, 1) := by decide +kernel
theorem dL_law_825 : decode cL_law 825 = .ok (.iadd, 1) := by decide +kernel
theorem dL_law_826 : decode cL_law 826 = .ok (.iaload, 1) := by decide +kernel
theorem dL_law_827 : decode cL_law 827 = .ok (.aload_n 0, 1) := by decide +kernel
theorem dL_law_828 : decode cL_law 828 = .ok (.iload_n 3, 1) := by decide +kernel
theorem dL_law_829 : decode cL_law 829 = .ok (.iconst 2, 1) := by decide +kernel
theorem dL_law_830 : decode cL_law 830 = .ok (.iadd, 1) := by decide +kernel
theorem dL_law_831 : decode cL_law 831 = .ok (.iaload, 1) := by decide +kernel
theorem dL_law_832 : decode cL_law 832 = .ok (.invokevirtual 111, 3) := by decide +kernel
theorem dL_law_835 : decode cL_law 835 = .ok (.if_icmp .eq 110, 3) := by decide +kernel
theorem dL_law_838 : decode cL_law 838 = .ok (.iconst 0, 1) := by decide +kernel
theorem dL_law_839 : decode cL_law 839 = .ok (.ireturn, 1) := by decide +kernel
theorem dL_law_840 : decode cL_law 840 = .ok (.aload_n 1, 1) := by decide +kernel
theorem dL_law_841 : decode cL_law 841 = .ok (.aload_n 0, 1) := by decide +kernel
theorem dL_law_842 : decode cL_law 842 = .ok (.iload_n 3, 1) := by decide +kernel
theorem dL_law_843 : decode cL_law 843 = .ok (.iconst 1, 1) := by decide +kernel
theorem dL_law_844 : decode cL_law 844 = .ok (.iadd, 1) := by decide +kernel
theorem dL_law_845 : decode cL_law 845 = .ok (.iaload, 1) := by decide +kernel
theorem dL_law_846 : decode cL_law 846 = .ok (.aload_n 0, 1) := by decide +kernel
theorem dL_law_847 : decode cL_law 847 = .ok (.iload_n 3, 1) := by decide +kernel
theorem dL_law_848 : decode cL_law 848 = .ok (.iconst 2, 1) := by decide +kernel
theorem dL_law_849 : decode cL_law 849 = .ok (.iadd, 1) := by decide +kernel
theorem dL_law_850 : decode cL_law 850 = .ok (.iaload, 1) := by decide +kernel
theorem dL_law_851 : decode cL_law 851 = .ok (.invokevirtual 112, 3) := by decide +kernel
theorem dL_law_854 : decode cL_law 854 = .ok (.aload_n 2, 1) := by decide +kernel
theorem dL_law_855 : decode cL_law 855 = .ok (.aload_n 0, 1) := by decide +kernel
theorem dL_law_856 : decode cL_law 856 = .ok (.iload_n 3, 1) := by decide +kernel
theorem dL_law_857 : decode cL_law 857 = .ok (.iconst 1, 1) := by decide +kernel
theorem dL_law_858 : decode cL_law 858 = .ok (.iadd, 1) := by decide +kernel
theorem dL_law_859 : decode cL_law 859 = .ok (.iaload, 1) := by decide +kernel
theorem dL_law_860 : decode cL_law 860 = .ok (.aload_n 0, 1) := by decide +kernel
theorem dL_law_861 : decode cL_law 861 = .ok (.iload_n 3, 1) := by decide +kernel
theorem dL_law_862 : decode cL_law 862 = .ok (.iconst 2, 1) := by decide +kernel
theorem dL_law_863 : decode cL_law 863 = .ok (.iadd, 1) := by decide +kernel
theorem dL_law_864 : decode cL_law 864 = .ok (.iaload, 1) := by decide +kernel
theorem dL_law_865 : decode cL_law 865 = .ok (.invokevirtual 115, 3) := by decide +kernel
theorem dL_law_868 : decode cL_law 868 = .ok (.if_icmp .eq 77, 3) := by decide +kernel
theorem dL_law_871 : decode cL_law 871 = .ok (.iconst 0, 1) := by decide +kernel
theorem dL_law_872 : decode cL_law 872 = .ok (.ireturn, 1) := by decide +kernel
theorem dL_law_873 : decode cL_law 873 = .ok (.aload_n 1, 1) := by decide +kernel
theorem dL_law_874 : decode cL_law 874 = .ok (.aload_n 0, 1) := by decide +kernel
theorem dL_law_875 : decode cL_law 875 = .ok (.iload_n 3, 1) := by decide +kernel
theorem dL_law_876 : decode cL_law 876 = .ok (.iconst 1, 1) := by decide +kernel
theorem dL_law_877 : decode cL_law 877 = .ok (.iadd, 1) := by decide +kernel
theorem dL_law_878 : decode cL_law 878 = .ok (.iaload, 1) := by decide +kernel
theorem dL_law_879 : decode cL_law 879 = .ok (.invokevirtual 116, 3) := by decide +kernel
theorem dL_law_882 : decode cL_law 882 = .ok (.aload_n 2, 1) := by decide +kernel
theorem dL_law_883 : decode cL_law 883 = .ok (.aload_n 0, 1) := by decide +kernel
theorem dL_law_884 : decode cL_law 884 = .ok (.iload_n 3, 1) := by decide +kernel
theorem dL_law_885 : decode cL_law 885 = .ok (.iconst 1, 1) := by decide +kernel
theorem dL_law_886 : decode cL_law 886 = .ok (.iadd, 1) := by decide +kernel
theorem dL_law_887 : decode cL_law 887 = .ok (.iaload, 1) := by decide +kernel
theorem dL_law_888 : decode cL_law 888 = .ok (.invokevirtual 119, 3) := by decide +kernel
theorem dL_law_891 : decode cL_law 891 = .ok (.if_icmp .eq 54, 3) := by decide +kernel
theorem dL_law_894 : decode cL_law 894 = .ok (.iconst 0, 1) := by decide +kernel
theorem dL_law_895 : decode cL_law 895 = .ok (.ireturn, 1) := by decide +kernel
theorem dL_law_896 : decode cL_law 896 = .ok (.aload_n 1, 1) := by decide +kernel
theorem dL_law_897 : decode cL_law 897 = .ok (.invokevirtual 120, 3) := by decide +kernel
theorem dL_law_900 : decode cL_law 900 = .ok (.aload_n 2, 1) := by decide +kernel
theorem dL_law_901 : decode cL_law 901 = .ok (.invokevirtual 123, 3) := by decide +kernel
theorem dL_law_904 : decode cL_law 904 = .ok (.if_icmp .eq 41, 3) := by decide +kernel
theorem dL_law_907 : decode cL_law 907 = .ok (.iconst 0, 1) := by decide +kernel
theorem dL_law_908 : decode cL_law 908 = .ok (.ireturn, 1) := by decide +kernel
theorem dL_law_909 : decode cL_law 909 = .ok (.aload_n 1, 1) := by decide +kernel
theorem dL_law_910 : decode cL_law 910 = .ok (.invokevirtual 124, 3) := by decide +kernel
theorem dL_law_913 : decode cL_law 913 = .ok (.aload_n 2, 1) := by decide +kernel
theorem dL_law_914 : decode cL_law 914 = .ok (.invokevirtual 127, 3) := by decide +kernel
theorem dL_law_917 : decode cL_law 917 = .ok (.if_icmp .eq 28, 3) := by decide +kernel
theorem dL_law_920 : decode cL_law 920 = .ok (.iconst 0, 1) := by decide +kernel
theorem dL_law_921 : decode cL_law 921 = .ok (.ireturn, 1) := by decide +kernel
theorem dL_law_922 : decode cL_law 922 = .ok (.aload_n 1, 1) := by decide +kernel
theorem dL_law_923 : decode cL_law 923 = .ok (.aload_n 0, 1) := by decide +kernel
theorem dL_law_924 : decode cL_law 924 = .ok (.iload_n 3, 1) := by decide +kernel
theorem dL_law_925 : decode cL_law 925 = .ok (.iconst 1, 1) := by decide +kernel
theorem dL_law_926 : decode cL_law 926 = .ok (.iadd, 1) := by decide +kernel
theorem dL_law_927 : decode cL_law 927 = .ok (.iaload, 1) := by decide +kernel
theorem dL_law_928 : decode cL_law 928 = .ok (.invokevirtual 128, 3) := by decide +kernel
theorem dL_law_931 : decode cL_law 931 = .ok (.aload_n 2, 1) := by decide +kernel
theorem dL_law_932 : decode cL_law 932 = .ok (.aload_n 0, 1) := by decide +kernel
theorem dL_law_933 : decode cL_law 933 = .ok (.iload_n 3, 1) := by decide +kernel
theorem dL_law_934 : decode cL_law 934 = .ok (.iconst 1, 1) := by decide +kernel
theorem dL_law_935 : decode cL_law 935 = .ok (.iadd, 1) := by decide +kernel
theorem dL_law_936 : decode cL_law 936 = .ok (.iaload, 1) := by decide +kernel
theorem dL_law_937 : decode cL_law 937 = .ok (.invokevirtual 131, 3) := by decide +kernel
theorem dL_law_940 : decode cL_law 940 = .ok (.if_icmp .eq 5, 3) := by decide +kernel
theorem dL_law_943 : decode cL_law 943 = .ok (.iconst 0, 1) := by decide +kernel
theorem dL_law_944 : decode cL_law 944 = .ok (.ireturn, 1) := by decide +kernel
theorem dL_law_945 : decode cL_law 945 = .ok (.iinc 3 5, 3) := by decide +kernel
theorem dL_law_948 : decode cL_law 948 = .ok (.goto (-930), 3) := by decide +kernel
theorem dL_law_951 : decode cL_law 951 = .ok (.iconst 1, 1) := by decide +kernel
theorem dL_law_952 : decode cL_law 952 = .ok (.ireturn, 1) := by decide +kernel
def rel_feed (R : bd_T → bd_T → Prop) : Prop := ∀ (x0 : Int32) (x1 : Int64) (S M : bd_T), R S M → ∃ (r : Int32) (S' M' : bd_T), f_X9_feed x0 x1 S = some (r, S') ∧ f_X10_feed x0 x1 M = some (r, M') ∧ R S' M'
def rel_thing (R : bd_T → bd_T → Prop) : Prop := ∀  (S M : bd_T), R S M → ∃ (r : Int32) (S' M' : bd_T), f_X9_thing S = some (r, S') ∧ f_X10_thing M = some (r, M') ∧ R S' M'
def rel_thingOf (R : bd_T → bd_T → Prop) : Prop := ∀ (x0 : Int32) (x1 : Int32) (S M : bd_T), R S M → ∃ (r : Int32) (S' M' : bd_T), f_X9_thingOf x0 x1 S = some (r, S') ∧ f_X10_thingOf x0 x1 M = some (r, M') ∧ R S' M'
def rel_room (R : bd_T → bd_T → Prop) : Prop := ∀ (x0 : Int32) (S M : bd_T), R S M → ∃ (r : Int32) (S' M' : bd_T), f_X9_room x0 S = some (r, S') ∧ f_X10_room x0 M = some (r, M') ∧ R S' M'
def rel_window (R : bd_T → bd_T → Prop) : Prop := ∀ (x0 : Int32) (x1 : Int32) (S M : bd_T), R S M → ∃ (r : Int32) (S' M' : bd_T), f_X9_window x0 x1 S = some (r, S') ∧ f_X10_window x0 x1 M = some (r, M') ∧ R S' M'
def rel_candidate (R : bd_T → bd_T → Prop) : Prop := ∀ (x0 : Int32) (x1 : Int32) (S M : bd_T), R S M → ∃ (r : Int32) (S' M' : bd_T), f_X9_candidate x0 x1 S = some (r, S') ∧ f_X10_candidate x0 x1 M = some (r, M') ∧ R S' M'
def rel_left (R : bd_T → bd_T → Prop) : Prop := ∀ (x0 : Int32) (x1 : Int32) (x2 : Int32) (S M : bd_T), R S M → ∃ (r : Int32) (S' M' : bd_T), f_X9_left x0 x1 x2 S = some (r, S') ∧ f_X10_left x0 x1 x2 M = some (r, M') ∧ R S' M'
def rel_look (R : bd_T → bd_T → Prop) : Prop := ∀ (x0 : Int32) (x1 : Int32) (x2 : Int32) (x3 : Int32) (S M : bd_T), R S M → ∃ (r : Int32) (S' M' : bd_T), f_X9_look x0 x1 x2 x3 S = some (r, S') ∧ f_X10_look x0 x1 x2 x3 M = some (r, M') ∧ R S' M'
def rel_doubt (R : bd_T → bd_T → Prop) : Prop := ∀ (x0 : Int32) (x1 : Int32), (x1 = 0 ∨ x1 = 1) → ∀  (S M : bd_T), R S M → ∃ (r : Int32) (S' M' : bd_T), f_X9_doubt x0 x1 S = some (r, S') ∧ f_X10_doubt x0 x1 M = some (r, M') ∧ R S' M'
def rel_join (R : bd_T → bd_T → Prop) : Prop := ∀ (x0 : Int32) (x1 : Int32) (x2 : Int32) (x3 : Int32) (S M : bd_T), R S M → ∃ (r : Int32) (S' M' : bd_T), f_X9_join x0 x1 x2 x3 S = some (r, S') ∧ f_X10_join x0 x1 x2 x3 M = some (r, M') ∧ R S' M'
def rel_alone (R : bd_T → bd_T → Prop) : Prop := ∀ (x0 : Int32) (S M : bd_T), R S M → ∃ (r : Int32) (S' M' : bd_T), f_X9_alone x0 S = some (r, S') ∧ f_X10_alone x0 M = some (r, M') ∧ R S' M'
def rel_can (R : bd_T → bd_T → Prop) : Prop := ∀ (x0 : Int32) (x1 : Int32) (S M : bd_T), R S M → ∃ (r : Int32) (S' M' : bd_T), f_X9_can x0 x1 S = some (r, S') ∧ f_X10_can x0 x1 M = some (r, M') ∧ R S' M'
def rel_ways (R : bd_T → bd_T → Prop) : Prop := ∀  (S M : bd_T), R S M → ∃ (r : Int64) (S' M' : bd_T), f_X9_ways S = some (r, S') ∧ f_X10_ways M = some (r, M') ∧ R S' M'
def rel_may (R : bd_T → bd_T → Prop) : Prop := ∀ (x0 : Int32) (S M : bd_T), R S M → ∃ (r : Int32) (S' M' : bd_T), f_X9_may x0 S = some (r, S') ∧ f_X10_may x0 M = some (r, M') ∧ R S' M'
def rel_run (R : bd_T → bd_T → Prop) : Prop := ∀ (x0 : Int32) (x1 : Int32) (x2 : Int32) (S M : bd_T), R S M → ∃ (r : Int32) (S' M' : bd_T), f_X9_run x0 x1 x2 S = some (r, S') ∧ f_X10_run x0 x1 x2 M = some (r, M') ∧ R S' M'
def rel_chance (R : bd_T → bd_T → Prop) : Prop := ∀ (x0 : Int32) (x1 : Int32) (x2 : Int32) (S M : bd_T), R S M → ∃ (r : Int64) (S' M' : bd_T), f_X9_chance x0 x1 x2 S = some (r, S') ∧ f_X10_chance x0 x1 x2 M = some (r, M') ∧ R S' M'
def rel_put (R : bd_T → bd_T → Prop) : Prop := ∀ (x0 : Int32) (S M : bd_T), R S M → ∃ (r : Int32) (S' M' : bd_T), f_X9_put x0 S = some (r, S') ∧ f_X10_put x0 M = some (r, M') ∧ R S' M'
def rel_judge (R : bd_T → bd_T → Prop) : Prop := ∀  (S M : bd_T), R S M → ∃ (r : Int32) (S' M' : bd_T), f_X9_judge S = some (r, S') ∧ f_X10_judge M = some (r, M') ∧ R S' M'
def rel_doubts (R : bd_T → bd_T → Prop) : Prop := ∀  (S M : bd_T), R S M → ∃ (r : Int32) (S' M' : bd_T), f_X9_doubts S = some (r, S') ∧ f_X10_doubts M = some (r, M') ∧ R S' M'
def rel_opened (R : bd_T → bd_T → Prop) : Prop := ∀  (S M : bd_T), R S M → ∃ (r : Int32) (S' M' : bd_T), f_X9_opened S = some (r, S') ∧ f_X10_opened M = some (r, M') ∧ R S' M'
def rel_hangs (R : bd_T → bd_T → Prop) : Prop := ∀  (S M : bd_T), R S M → ∃ (r : Int32) (S' M' : bd_T), f_X9_hangs S = some (r, S') ∧ f_X10_hangs M = some (r, M') ∧ R S' M'
def rel_ahead (R : bd_T → bd_T → Prop) : Prop := ∀ (x0 : Int32) (x1 : Int32) (S M : bd_T), R S M → ∃ (r : Int32) (S' M' : bd_T), f_X9_ahead x0 x1 S = some (r, S') ∧ f_X10_ahead x0 x1 M = some (r, M') ∧ R S' M'
def rel_narrow (R : bd_T → bd_T → Prop) : Prop := ∀ (x0 : Int32) (x1 : Int32) (S M : bd_T), R S M → ∃ (r : Int32) (S' M' : bd_T), f_X9_narrow x0 x1 S = some (r, S') ∧ f_X10_narrow x0 x1 M = some (r, M') ∧ R S' M'
def rel_next (R : bd_T → bd_T → Prop) : Prop := ∀ (x0 : Int32) (S M : bd_T), R S M → ∃ (r : Int32) (S' M' : bd_T), f_X9_next x0 S = some (r, S') ∧ f_X10_next x0 M = some (r, M') ∧ R S' M'
def rel_image (R : bd_T → bd_T → Prop) : Prop := ∀  (S M : bd_T), R S M → ∃ (r : Int32) (S' M' : bd_T), f_X9_image S = some (r, S') ∧ f_X10_image M = some (r, M') ∧ R S' M'
def rel_on (R : bd_T → bd_T → Prop) : Prop := ∀  (S M : bd_T), R S M → ∃ (r : Int32) (S' M' : bd_T), f_X9_on S = some (r, S') ∧ f_X10_on M = some (r, M') ∧ R S' M'
def rel_count (R : bd_T → bd_T → Prop) : Prop := ∀ (x0 : Int32) (S M : bd_T), R S M → ∃ (r : Int32) (S' M' : bd_T), f_X9_count x0 S = some (r, S') ∧ f_X10_count x0 M = some (r, M') ∧ R S' M'
def bl_Rel (R : bd_T → bd_T → Prop) : Prop := rel_feed R ∧ rel_thing R ∧ rel_thingOf R ∧ rel_room R ∧ rel_window R ∧ rel_candidate R ∧ rel_left R ∧ rel_look R ∧ rel_doubt R ∧ rel_join R ∧ rel_alone R ∧ rel_can R ∧ rel_ways R ∧ rel_may R ∧ rel_run R ∧ rel_chance R ∧ rel_put R ∧ rel_judge R ∧ rel_doubts R ∧ rel_opened R ∧ rel_hangs R ∧ rel_ahead R ∧ rel_narrow R ∧ rel_next R ∧ rel_image R ∧ rel_on R ∧ rel_count R
set_option maxRecDepth 100000 in
set_option maxHeartbeats 4000000 in
theorem law_case_0 {Γ : bd_G} {b L : Nat} {xs : Nat → Int32} {ε μ : bd_E} {R : bd_T → bd_T → Prop} (hC : bl_C Γ b L xs ε) (hy : bd_y μ = bd_y ε) (hR : bl_Rel R) {i : Nat} (hi5 : i + 5 ≤ L) (hL : L ≤ 2560) {S M : bd_T} (hRS : R S M) (ih : ∀ (S M : bd_T), R S M → bd_U Γ 4 71 23203 (cX ε S ++ cM μ M) 18 [(3, .int (nI (i + 5))), (2, .ref (bd_a μ 0)), (1, .ref (bd_a ε 0)), (0, .ref b)] []) : bd_U Γ 4 71 23203 (cX ε S ++ cM μ M) 156 [(3, .int (nI i)), (2, .ref (bd_a μ 0)), (1, .ref (bd_a ε 0)), (0, .ref b)] [] := by
  refine bl_aload_n hC 2 dL_law_156 rfl rfl ?_
  refine bl_aload_n hC 3 dL_law_157 rfl rfl ?_
  refine bl_iload_n hC 0 dL_law_158 rfl rfl ?_
  refine bl_iconst hC (1 : Int32) dL_law_159 rfl ?_
  refine bl_iadd hC dL_law_160 ?_
  rw [show nI i + (1 : Int32) = nI (i + 1) from nI_add i 1]
  refine bl_sld hC (vp_in_nI (show i + 1 < L by omega) (by omega)) dL_law_161 ?_
  rw [nI_clamp (by omega)]
  refine bl_aload_n hC 3 dL_law_162 rfl rfl ?_
  refine bl_iload_n hC 0 dL_law_163 rfl rfl ?_
  refine bl_iconst hC (2 : Int32) dL_law_164 rfl ?_
  refine bl_iadd hC dL_law_165 ?_
  rw [show nI i + (2 : Int32) = nI (i + 2) from nI_add i 2]
  refine bl_sld hC (vp_in_nI (show i + 2 < L by omega) (by omega)) dL_law_166 ?_
  rw [nI_clamp (by omega)]
  refine bl_i2l hC dL_law_167 ?_
  refine bl_bipush hC (32 : Int32) dL_law_168 rfl ?_
  refine bl_lshl hC dL_law_170 ?_
  refine bl_aload_n hC 3 dL_law_171 rfl rfl ?_
  refine bl_iload_n hC 0 dL_law_172 rfl rfl ?_
  refine bl_iconst hC (3 : Int32) dL_law_173 rfl ?_
  refine bl_iadd hC dL_law_174 ?_
  rw [show nI i + (3 : Int32) = nI (i + 3) from nI_add i 3]
  refine bl_sld hC (vp_in_nI (show i + 3 < L by omega) (by omega)) dL_law_175 ?_
  rw [nI_clamp (by omega)]
  refine bl_i2l hC dL_law_176 ?_
  refine bl_ldc2 hC (4294967295 : Int64) mw_830 dL_law_177 ?_
  refine bl_land hC dL_law_180 ?_
  refine bl_lor hC dL_law_181 ?_
  obtain ⟨r, S', M', hx, hm, hRn⟩ := hR.1 (xs (i + 1)) ((((xs (i + 2)).toInt64) <<< ((32 : Int32).toInt64 &&& 63)) ||| (((xs (i + 3)).toInt64) &&& (4294967295 : Int64)))  S M hRS
  refine bl_callX (ε' := ε) (cs := cX ε) (S := S) (S' := S') (r := r) (rm := ({ frames := 2, cells := 0, slots := 0, locals := 46 } : Room)) hC rfl [.int (xs (i + 1)), .long ((((xs (i + 2)).toInt64) <<< ((32 : Int32).toInt64 &&& 63)) ||| (((xs (i + 3)).toInt64) &&& (4294967295 : Int64)))] [] (c_X9_feed (bd_l Γ) (bd_D Γ) ε (xs (i + 1)) ((((xs (i + 2)).toInt64) <<< ((32 : Int32).toInt64 &&& 63)) ||| (((xs (i + 3)).toInt64) &&& (4294967295 : Int64))) S (by rw [hx]; rfl)) hx mw_231 mw_228 mw_229 mw_72 mw_230 (cX_o0 ε S) rfl by_X9_feed ⟨rfl, rfl, Nat.le_of_ble_eq_true rfl, Nat.le_of_ble_eq_true rfl⟩ rfl rfl (Nat.le_of_ble_eq_true rfl) ⟨Nat.le_of_ble_eq_true rfl, Nat.le_of_ble_eq_true rfl⟩ dL_law_182 [.int r] rfl ?_
  refine bl_aload_n hC 1 dL_law_185 rfl rfl ?_
  refine bl_aload_n hC 3 dL_law_186 rfl rfl ?_
  refine bl_iload_n hC 0 dL_law_187 rfl rfl ?_
  refine bl_iconst hC (1 : Int32) dL_law_188 rfl ?_
  refine bl_iadd hC dL_law_189 ?_
  rw [show nI i + (1 : Int32) = nI (i + 1) from nI_add i 1]
  refine bl_sld hC (vp_in_nI (show i + 1 < L by omega) (by omega)) dL_law_190 ?_
  rw [nI_clamp (by omega)]
  refine bl_aload_n hC 3 dL_law_191 rfl rfl ?_
  refine bl_iload_n hC 0 dL_law_192 rfl rfl ?_
  refine bl_iconst hC (2 : Int32) dL_law_193 rfl ?_
  refine bl_iadd hC dL_law_194 ?_
  rw [show nI i + (2 : Int32) = nI (i + 2) from nI_add i 2]
  refine bl_sld hC (vp_in_nI (show i + 2 < L by omega) (by omega)) dL_law_195 ?_
  rw [nI_clamp (by omega)]
  refine bl_i2l hC dL_law_196 ?_
  refine bl_bipush hC (32 : Int32) dL_law_197 rfl ?_
  refine bl_lshl hC dL_law_199 ?_
  refine bl_aload_n hC 3 dL_law_200 rfl rfl ?_
  refine bl_iload_n hC 0 dL_law_201 rfl rfl ?_
  refine bl_iconst hC (3 : Int32) dL_law_202 rfl ?_
  refine bl_iadd hC dL_law_203 ?_
  rw [show nI i + (3 : Int32) = nI (i + 3) from nI_add i 3]
  refine bl_sld hC (vp_in_nI (show i + 3 < L by omega) (by omega)) dL_law_204 ?_
  rw [nI_clamp (by omega)]
  refine bl_i2l hC dL_law_205 ?_
  refine bl_ldc2 hC (4294967295 : Int64) mw_830 dL_law_206 ?_
  refine bl_land hC dL_law_209 ?_
  refine bl_lor hC dL_law_210 ?_
  refine bl_callM (ε' := μ) (cs := cM μ) (S := M) (S' := M') (r := r) (rm := ({ frames := 1, cells := 0, slots := 0, locals := 22 } : Room)) hC hy [.int (xs (i + 1)), .long ((((xs (i + 2)).toInt64) <<< ((32 : Int32).toInt64 &&& 63)) ||| (((xs (i + 3)).toInt64) &&& (4294967295 : Int64)))] [.int r] (c_X10_feed (bd_l Γ) (bd_D Γ) μ (xs (i + 1)) ((((xs (i + 2)).toInt64) <<< ((32 : Int32).toInt64 &&& 63)) ||| (((xs (i + 3)).toInt64) &&& (4294967295 : Int64))) M (by rw [hm]; rfl)) hm mw_640 mw_637 mw_638 mw_82 mw_639 (cM_o0 μ M) rfl by_X10_feed ⟨rfl, rfl, Nat.le_of_ble_eq_true rfl, Nat.le_of_ble_eq_true rfl⟩ rfl rfl (Nat.le_of_ble_eq_true rfl) ⟨Nat.le_of_ble_eq_true rfl, Nat.le_of_ble_eq_true rfl⟩ dL_law_211 [.int r, .int r] rfl ?_
  refine bl_same hC 945 dL_law_214 (by decide) ?_
  refine bl_iinc hC 0 [(3, .int (nI (i + 5))), (2, .ref (bd_a μ 0)), (1, .ref (bd_a ε 0)), (0, .ref b)] dL_law_945 rfl (nI_add i 5) (by decide) rfl ?_
  refine bl_goto hC 18 dL_law_948 (by decide) ?_
  exact ih S' M' hRn
set_option maxRecDepth 100000 in
set_option maxHeartbeats 4000000 in
theorem law_case_1 {Γ : bd_G} {b L : Nat} {xs : Nat → Int32} {ε μ : bd_E} {R : bd_T → bd_T → Prop} (hC : bl_C Γ b L xs ε) (hy : bd_y μ = bd_y ε) (hR : bl_Rel R) {i : Nat} (hi5 : i + 5 ≤ L) (hL : L ≤ 2560) {S M : bd_T} (hRS : R S M) (ih : ∀ (S M : bd_T), R S M → bd_U Γ 4 71 23203 (cX ε S ++ cM μ M) 18 [(3, .int (nI (i + 5))), (2, .ref (bd_a μ 0)), (1, .ref (bd_a ε 0)), (0, .ref b)] []) : bd_U Γ 4 71 23203 (cX ε S ++ cM μ M) 219 [(3, .int (nI i)), (2, .ref (bd_a μ 0)), (1, .ref (bd_a ε 0)), (0, .ref b)] [] := by
  refine bl_aload_n hC 2 dL_law_219 rfl rfl ?_
  obtain ⟨r, S', M', hx, hm, hRn⟩ := hR.2.1   S M hRS
  refine bl_callX (ε' := ε) (cs := cX ε) (S := S) (S' := S') (r := r) (rm := ({ frames := 4, cells := 0, slots := 0, locals := 84 } : Room)) hC rfl [] [] (c_X9_thing (bd_l Γ) (bd_D Γ) ε S (by rw [hx]; rfl)) hx mw_246 mw_243 mw_244 mw_72 mw_245 (cX_o0 ε S) rfl by_X9_thing ⟨rfl, rfl, Nat.le_of_ble_eq_true rfl, Nat.le_of_ble_eq_true rfl⟩ rfl rfl (Nat.le_of_ble_eq_true rfl) ⟨Nat.le_of_ble_eq_true rfl, Nat.le_of_ble_eq_true rfl⟩ dL_law_220 [.int r] rfl ?_
  refine bl_aload_n hC 1 dL_law_223 rfl rfl ?_
  refine bl_callM (ε' := μ) (cs := cM μ) (S := M) (S' := M') (r := r) (rm := ({ frames := 3, cells := 0, slots := 0, locals := 69 } : Room)) hC hy [] [.int r] (c_X10_thing (bd_l Γ) (bd_D Γ) μ M (by rw [hm]; rfl)) hm mw_651 mw_648 mw_649 mw_82 mw_650 (cM_o0 μ M) rfl by_X10_thing ⟨rfl, rfl, Nat.le_of_ble_eq_true rfl, Nat.le_of_ble_eq_true rfl⟩ rfl rfl (Nat.le_of_ble_eq_true rfl) ⟨Nat.le_of_ble_eq_true rfl, Nat.le_of_ble_eq_true rfl⟩ dL_law_224 [.int r, .int r] rfl ?_
  refine bl_same hC 945 dL_law_227 (by decide) ?_
  refine bl_iinc hC 0 [(3, .int (nI (i + 5))), (2, .ref (bd_a μ 0)), (1, .ref (bd_a ε 0)), (0, .ref b)] dL_law_945 rfl (nI_add i 5) (by decide) rfl ?_
  refine bl_goto hC 18 dL_law_948 (by decide) ?_
  exact ih S' M' hRn
set_option maxRecDepth 100000 in
set_option maxHeartbeats 4000000 in
theorem law_case_2 {Γ : bd_G} {b L : Nat} {xs : Nat → Int32} {ε μ : bd_E} {R : bd_T → bd_T → Prop} (hC : bl_C Γ b L xs ε) (hy : bd_y μ = bd_y ε) (hR : bl_Rel R) {i : Nat} (hi5 : i + 5 ≤ L) (hL : L ≤ 2560) {S M : bd_T} (hRS : R S M) (ih : ∀ (S M : bd_T), R S M → bd_U Γ 4 71 23203 (cX ε S ++ cM μ M) 18 [(3, .int (nI (i + 5))), (2, .ref (bd_a μ 0)), (1, .ref (bd_a ε 0)), (0, .ref b)] []) : bd_U Γ 4 71 23203 (cX ε S ++ cM μ M) 232 [(3, .int (nI i)), (2, .ref (bd_a μ 0)), (1, .ref (bd_a ε 0)), (0, .ref b)] [] := by
  refine bl_aload_n hC 2 dL_law_232 rfl rfl ?_
  refine bl_aload_n hC 3 dL_law_233 rfl rfl ?_
  refine bl_iload_n hC 0 dL_law_234 rfl rfl ?_
  refine bl_iconst hC (1 : Int32) dL_law_235 rfl ?_
  refine bl_iadd hC dL_law_236 ?_
  rw [show nI i + (1 : Int32) = nI (i + 1) from nI_add i 1]
  refine bl_sld hC (vp_in_nI (show i + 1 < L by omega) (by omega)) dL_law_237 ?_
  rw [nI_clamp (by omega)]
  refine bl_aload_n hC 3 dL_law_238 rfl rfl ?_
  refine bl_iload_n hC 0 dL_law_239 rfl rfl ?_
  refine bl_iconst hC (2 : Int32) dL_law_240 rfl ?_
  refine bl_iadd hC dL_law_241 ?_
  rw [show nI i + (2 : Int32) = nI (i + 2) from nI_add i 2]
  refine bl_sld hC (vp_in_nI (show i + 2 < L by omega) (by omega)) dL_law_242 ?_
  rw [nI_clamp (by omega)]
  obtain ⟨r, S', M', hx, hm, hRn⟩ := hR.2.2.1 (xs (i + 1)) (xs (i + 2))  S M hRS
  refine bl_callX (ε' := ε) (cs := cX ε) (S := S) (S' := S') (r := r) (rm := ({ frames := 2, cells := 0, slots := 0, locals := 43 } : Room)) hC rfl [.int (xs (i + 1)), .int (xs (i + 2))] [] (c_X9_thingOf (bd_l Γ) (bd_D Γ) ε (xs (i + 1)) (xs (i + 2)) S (by rw [hx]; rfl)) hx mw_266 mw_263 mw_264 mw_72 mw_265 (cX_o0 ε S) rfl by_X9_thingOf ⟨rfl, rfl, Nat.le_of_ble_eq_true rfl, Nat.le_of_ble_eq_true rfl⟩ rfl rfl (Nat.le_of_ble_eq_true rfl) ⟨Nat.le_of_ble_eq_true rfl, Nat.le_of_ble_eq_true rfl⟩ dL_law_243 [.int r] rfl ?_
  refine bl_aload_n hC 1 dL_law_246 rfl rfl ?_
  refine bl_aload_n hC 3 dL_law_247 rfl rfl ?_
  refine bl_iload_n hC 0 dL_law_248 rfl rfl ?_
  refine bl_iconst hC (1 : Int32) dL_law_249 rfl ?_
  refine bl_iadd hC dL_law_250 ?_
  rw [show nI i + (1 : Int32) = nI (i + 1) from nI_add i 1]
  refine bl_sld hC (vp_in_nI (show i + 1 < L by omega) (by omega)) dL_law_251 ?_
  rw [nI_clamp (by omega)]
  refine bl_aload_n hC 3 dL_law_252 rfl rfl ?_
  refine bl_iload_n hC 0 dL_law_253 rfl rfl ?_
  refine bl_iconst hC (2 : Int32) dL_law_254 rfl ?_
  refine bl_iadd hC dL_law_255 ?_
  rw [show nI i + (2 : Int32) = nI (i + 2) from nI_add i 2]
  refine bl_sld hC (vp_in_nI (show i + 2 < L by omega) (by omega)) dL_law_256 ?_
  rw [nI_clamp (by omega)]
  refine bl_callM (ε' := μ) (cs := cM μ) (S := M) (S' := M') (r := r) (rm := ({ frames := 1, cells := 0, slots := 0, locals := 21 } : Room)) hC hy [.int (xs (i + 1)), .int (xs (i + 2))] [.int r] (c_X10_thingOf (bd_l Γ) (bd_D Γ) μ (xs (i + 1)) (xs (i + 2)) M (by rw [hm]; rfl)) hm mw_667 mw_664 mw_665 mw_82 mw_666 (cM_o0 μ M) rfl by_X10_thingOf ⟨rfl, rfl, Nat.le_of_ble_eq_true rfl, Nat.le_of_ble_eq_true rfl⟩ rfl rfl (Nat.le_of_ble_eq_true rfl) ⟨Nat.le_of_ble_eq_true rfl, Nat.le_of_ble_eq_true rfl⟩ dL_law_257 [.int r, .int r] rfl ?_
  refine bl_same hC 945 dL_law_260 (by decide) ?_
  refine bl_iinc hC 0 [(3, .int (nI (i + 5))), (2, .ref (bd_a μ 0)), (1, .ref (bd_a ε 0)), (0, .ref b)] dL_law_945 rfl (nI_add i 5) (by decide) rfl ?_
  refine bl_goto hC 18 dL_law_948 (by decide) ?_
  exact ih S' M' hRn
set_option maxRecDepth 100000 in
set_option maxHeartbeats 4000000 in
theorem law_case_3 {Γ : bd_G} {b L : Nat} {xs : Nat → Int32} {ε μ : bd_E} {R : bd_T → bd_T → Prop} (hC : bl_C Γ b L xs ε) (hy : bd_y μ = bd_y ε) (hR : bl_Rel R) {i : Nat} (hi5 : i + 5 ≤ L) (hL : L ≤ 2560) {S M : bd_T} (hRS : R S M) (ih : ∀ (S M : bd_T), R S M → bd_U Γ 4 71 23203 (cX ε S ++ cM μ M) 18 [(3, .int (nI (i + 5))), (2, .ref (bd_a μ 0)), (1, .ref (bd_a ε 0)), (0, .ref b)] []) : bd_U Γ 4 71 23203 (cX ε S ++ cM μ M) 265 [(3, .int (nI i)), (2, .ref (bd_a μ 0)), (1, .ref (bd_a ε 0)), (0, .ref b)] [] := by
  refine bl_aload_n hC 2 dL_law_265 rfl rfl ?_
  refine bl_aload_n hC 3 dL_law_266 rfl rfl ?_
  refine bl_iload_n hC 0 dL_law_267 rfl rfl ?_
  refine bl_iconst hC (1 : Int32) dL_law_268 rfl ?_
  refine bl_iadd hC dL_law_269 ?_
  rw [show nI i + (1 : Int32) = nI (i + 1) from nI_add i 1]
  refine bl_sld hC (vp_in_nI (show i + 1 < L by omega) (by omega)) dL_law_270 ?_
  rw [nI_clamp (by omega)]
  obtain ⟨r, S', M', hx, hm, hRn⟩ := hR.2.2.2.1 (xs (i + 1))  S M hRS
  refine bl_callX (ε' := ε) (cs := cX ε) (S := S) (S' := S') (r := r) (rm := ({ frames := 2, cells := 0, slots := 0, locals := 43 } : Room)) hC rfl [.int (xs (i + 1))] [] (c_X9_room (bd_l Γ) (bd_D Γ) ε (xs (i + 1)) S (by rw [hx]; rfl)) hx mw_273 mw_270 mw_271 mw_72 mw_272 (cX_o0 ε S) rfl by_X9_room ⟨rfl, rfl, Nat.le_of_ble_eq_true rfl, Nat.le_of_ble_eq_true rfl⟩ rfl rfl (Nat.le_of_ble_eq_true rfl) ⟨Nat.le_of_ble_eq_true rfl, Nat.le_of_ble_eq_true rfl⟩ dL_law_271 [.int r] rfl ?_
  refine bl_aload_n hC 1 dL_law_274 rfl rfl ?_
  refine bl_aload_n hC 3 dL_law_275 rfl rfl ?_
  refine bl_iload_n hC 0 dL_law_276 rfl rfl ?_
  refine bl_iconst hC (1 : Int32) dL_law_277 rfl ?_
  refine bl_iadd hC dL_law_278 ?_
  rw [show nI i + (1 : Int32) = nI (i + 1) from nI_add i 1]
  refine bl_sld hC (vp_in_nI (show i + 1 < L by omega) (by omega)) dL_law_279 ?_
  rw [nI_clamp (by omega)]
  refine bl_callM (ε' := μ) (cs := cM μ) (S := M) (S' := M') (r := r) (rm := ({ frames := 1, cells := 0, slots := 0, locals := 22 } : Room)) hC hy [.int (xs (i + 1))] [.int r] (c_X10_room (bd_l Γ) (bd_D Γ) μ (xs (i + 1)) M (by rw [hm]; rfl)) hm mw_674 mw_671 mw_672 mw_82 mw_673 (cM_o0 μ M) rfl by_X10_room ⟨rfl, rfl, Nat.le_of_ble_eq_true rfl, Nat.le_of_ble_eq_true rfl⟩ rfl rfl (Nat.le_of_ble_eq_true rfl) ⟨Nat.le_of_ble_eq_true rfl, Nat.le_of_ble_eq_true rfl⟩ dL_law_280 [.int r, .int r] rfl ?_
  refine bl_same hC 945 dL_law_283 (by decide) ?_
  refine bl_iinc hC 0 [(3, .int (nI (i + 5))), (2, .ref (bd_a μ 0)), (1, .ref (bd_a ε 0)), (0, .ref b)] dL_law_945 rfl (nI_add i 5) (by decide) rfl ?_
  refine bl_goto hC 18 dL_law_948 (by decide) ?_
  exact ih S' M' hRn
set_option maxRecDepth 100000 in
set_option maxHeartbeats 4000000 in
theorem law_case_4 {Γ : bd_G} {b L : Nat} {xs : Nat → Int32} {ε μ : bd_E} {R : bd_T → bd_T → Prop} (hC : bl_C Γ b L xs ε) (hy : bd_y μ = bd_y ε) (hR : bl_Rel R) {i : Nat} (hi5 : i + 5 ≤ L) (hL : L ≤ 2560) {S M : bd_T} (hRS : R S M) (ih : ∀ (S M : bd_T), R S M → bd_U Γ 4 71 23203 (cX ε S ++ cM μ M) 18 [(3, .int (nI (i + 5))), (2, .ref (bd_a μ 0)), (1, .ref (bd_a ε 0)), (0, .ref b)] []) : bd_U Γ 4 71 23203 (cX ε S ++ cM μ M) 288 [(3, .int (nI i)), (2, .ref (bd_a μ 0)), (1, .ref (bd_a ε 0)), (0, .ref b)] [] := by
  refine bl_aload_n hC 2 dL_law_288 rfl rfl ?_
  refine bl_aload_n hC 3 dL_law_289 rfl rfl ?_
  refine bl_iload_n hC 0 dL_law_290 rfl rfl ?_
  refine bl_iconst hC (1 : Int32) dL_law_291 rfl ?_
  refine bl_iadd hC dL_law_292 ?_
  rw [show nI i + (1 : Int32) = nI (i + 1) from nI_add i 1]
  refine bl_sld hC (vp_in_nI (show i + 1 < L by omega) (by omega)) dL_law_293 ?_
  rw [nI_clamp (by omega)]
  refine bl_aload_n hC 3 dL_law_294 rfl rfl ?_
  refine bl_iload_n hC 0 dL_law_295 rfl rfl ?_
  refine bl_iconst hC (2 : Int32) dL_law_296 rfl ?_
  refine bl_iadd hC dL_law_297 ?_
  rw [show nI i + (2 : Int32) = nI (i + 2) from nI_add i 2]
  refine bl_sld hC (vp_in_nI (show i + 2 < L by omega) (by omega)) dL_law_298 ?_
  rw [nI_clamp (by omega)]
  obtain ⟨r, S', M', hx, hm, hRn⟩ := hR.2.2.2.2.1 (xs (i + 1)) (xs (i + 2))  S M hRS
  refine bl_callX (ε' := ε) (cs := cX ε) (S := S) (S' := S') (r := r) (rm := ({ frames := 2, cells := 0, slots := 0, locals := 43 } : Room)) hC rfl [.int (xs (i + 1)), .int (xs (i + 2))] [] (c_X9_window (bd_l Γ) (bd_D Γ) ε (xs (i + 1)) (xs (i + 2)) S (by rw [hx]; rfl)) hx mw_279 mw_276 mw_277 mw_72 mw_278 (cX_o0 ε S) rfl by_X9_window ⟨rfl, rfl, Nat.le_of_ble_eq_true rfl, Nat.le_of_ble_eq_true rfl⟩ rfl rfl (Nat.le_of_ble_eq_true rfl) ⟨Nat.le_of_ble_eq_true rfl, Nat.le_of_ble_eq_true rfl⟩ dL_law_299 [.int r] rfl ?_
  refine bl_aload_n hC 1 dL_law_302 rfl rfl ?_
  refine bl_aload_n hC 3 dL_law_303 rfl rfl ?_
  refine bl_iload_n hC 0 dL_law_304 rfl rfl ?_
  refine bl_iconst hC (1 : Int32) dL_law_305 rfl ?_
  refine bl_iadd hC dL_law_306 ?_
  rw [show nI i + (1 : Int32) = nI (i + 1) from nI_add i 1]
  refine bl_sld hC (vp_in_nI (show i + 1 < L by omega) (by omega)) dL_law_307 ?_
  rw [nI_clamp (by omega)]
  refine bl_aload_n hC 3 dL_law_308 rfl rfl ?_
  refine bl_iload_n hC 0 dL_law_309 rfl rfl ?_
  refine bl_iconst hC (2 : Int32) dL_law_310 rfl ?_
  refine bl_iadd hC dL_law_311 ?_
  rw [show nI i + (2 : Int32) = nI (i + 2) from nI_add i 2]
  refine bl_sld hC (vp_in_nI (show i + 2 < L by omega) (by omega)) dL_law_312 ?_
  rw [nI_clamp (by omega)]
  refine bl_callM (ε' := μ) (cs := cM μ) (S := M) (S' := M') (r := r) (rm := ({ frames := 1, cells := 0, slots := 0, locals := 21 } : Room)) hC hy [.int (xs (i + 1)), .int (xs (i + 2))] [.int r] (c_X10_window (bd_l Γ) (bd_D Γ) μ (xs (i + 1)) (xs (i + 2)) M (by rw [hm]; rfl)) hm mw_678 mw_675 mw_676 mw_82 mw_677 (cM_o0 μ M) rfl by_X10_window ⟨rfl, rfl, Nat.le_of_ble_eq_true rfl, Nat.le_of_ble_eq_true rfl⟩ rfl rfl (Nat.le_of_ble_eq_true rfl) ⟨Nat.le_of_ble_eq_true rfl, Nat.le_of_ble_eq_true rfl⟩ dL_law_313 [.int r, .int r] rfl ?_
  refine bl_same hC 945 dL_law_316 (by decide) ?_
  refine bl_iinc hC 0 [(3, .int (nI (i + 5))), (2, .ref (bd_a μ 0)), (1, .ref (bd_a ε 0)), (0, .ref b)] dL_law_945 rfl (nI_add i 5) (by decide) rfl ?_
  refine bl_goto hC 18 dL_law_948 (by decide) ?_
  exact ih S' M' hRn
set_option maxRecDepth 100000 in
set_option maxHeartbeats 4000000 in
theorem law_case_5 {Γ : bd_G} {b L : Nat} {xs : Nat → Int32} {ε μ : bd_E} {R : bd_T → bd_T → Prop} (hC : bl_C Γ b L xs ε) (hy : bd_y μ = bd_y ε) (hR : bl_Rel R) {i : Nat} (hi5 : i + 5 ≤ L) (hL : L ≤ 2560) {S M : bd_T} (hRS : R S M) (ih : ∀ (S M : bd_T), R S M → bd_U Γ 4 71 23203 (cX ε S ++ cM μ M) 18 [(3, .int (nI (i + 5))), (2, .ref (bd_a μ 0)), (1, .ref (bd_a ε 0)), (0, .ref b)] []) : bd_U Γ 4 71 23203 (cX ε S ++ cM μ M) 321 [(3, .int (nI i)), (2, .ref (bd_a μ 0)), (1, .ref (bd_a ε 0)), (0, .ref b)] [] := by
  refine bl_aload_n hC 2 dL_law_321 rfl rfl ?_
  refine bl_aload_n hC 3 dL_law_322 rfl rfl ?_
  refine bl_iload_n hC 0 dL_law_323 rfl rfl ?_
  refine bl_iconst hC (1 : Int32) dL_law_324 rfl ?_
  refine bl_iadd hC dL_law_325 ?_
  rw [show nI i + (1 : Int32) = nI (i + 1) from nI_add i 1]
  refine bl_sld hC (vp_in_nI (show i + 1 < L by omega) (by omega)) dL_law_326 ?_
  rw [nI_clamp (by omega)]
  refine bl_aload_n hC 3 dL_law_327 rfl rfl ?_
  refine bl_iload_n hC 0 dL_law_328 rfl rfl ?_
  refine bl_iconst hC (2 : Int32) dL_law_329 rfl ?_
  refine bl_iadd hC dL_law_330 ?_
  rw [show nI i + (2 : Int32) = nI (i + 2) from nI_add i 2]
  refine bl_sld hC (vp_in_nI (show i + 2 < L by omega) (by omega)) dL_law_331 ?_
  rw [nI_clamp (by omega)]
  obtain ⟨r, S', M', hx, hm, hRn⟩ := hR.2.2.2.2.2.1 (xs (i + 1)) (xs (i + 2))  S M hRS
  refine bl_callX (ε' := ε) (cs := cX ε) (S := S) (S' := S') (r := r) (rm := ({ frames := 2, cells := 0, slots := 0, locals := 44 } : Room)) hC rfl [.int (xs (i + 1)), .int (xs (i + 2))] [] (c_X9_candidate (bd_l Γ) (bd_D Γ) ε (xs (i + 1)) (xs (i + 2)) S (by rw [hx]; rfl)) hx mw_288 mw_285 mw_286 mw_72 mw_287 (cX_o0 ε S) rfl by_X9_candidate ⟨rfl, rfl, Nat.le_of_ble_eq_true rfl, Nat.le_of_ble_eq_true rfl⟩ rfl rfl (Nat.le_of_ble_eq_true rfl) ⟨Nat.le_of_ble_eq_true rfl, Nat.le_of_ble_eq_true rfl⟩ dL_law_332 [.int r] rfl ?_
  refine bl_aload_n hC 1 dL_law_335 rfl rfl ?_
  refine bl_aload_n hC 3 dL_law_336 rfl rfl ?_
  refine bl_iload_n hC 0 dL_law_337 rfl rfl ?_
  refine bl_iconst hC (1 : Int32) dL_law_338 rfl ?_
  refine bl_iadd hC dL_law_339 ?_
  rw [show nI i + (1 : Int32) = nI (i + 1) from nI_add i 1]
  refine bl_sld hC (vp_in_nI (show i + 1 < L by omega) (by omega)) dL_law_340 ?_
  rw [nI_clamp (by omega)]
  refine bl_aload_n hC 3 dL_law_341 rfl rfl ?_
  refine bl_iload_n hC 0 dL_law_342 rfl rfl ?_
  refine bl_iconst hC (2 : Int32) dL_law_343 rfl ?_
  refine bl_iadd hC dL_law_344 ?_
  rw [show nI i + (2 : Int32) = nI (i + 2) from nI_add i 2]
  refine bl_sld hC (vp_in_nI (show i + 2 < L by omega) (by omega)) dL_law_345 ?_
  rw [nI_clamp (by omega)]
  refine bl_callM (ε' := μ) (cs := cM μ) (S := M) (S' := M') (r := r) (rm := ({ frames := 1, cells := 0, slots := 0, locals := 21 } : Room)) hC hy [.int (xs (i + 1)), .int (xs (i + 2))] [.int r] (c_X10_candidate (bd_l Γ) (bd_D Γ) μ (xs (i + 1)) (xs (i + 2)) M (by rw [hm]; rfl)) hm mw_682 mw_679 mw_680 mw_82 mw_681 (cM_o0 μ M) rfl by_X10_candidate ⟨rfl, rfl, Nat.le_of_ble_eq_true rfl, Nat.le_of_ble_eq_true rfl⟩ rfl rfl (Nat.le_of_ble_eq_true rfl) ⟨Nat.le_of_ble_eq_true rfl, Nat.le_of_ble_eq_true rfl⟩ dL_law_346 [.int r, .int r] rfl ?_
  refine bl_same hC 945 dL_law_349 (by decide) ?_
  refine bl_iinc hC 0 [(3, .int (nI (i + 5))), (2, .ref (bd_a μ 0)), (1, .ref (bd_a ε 0)), (0, .ref b)] dL_law_945 rfl (nI_add i 5) (by decide) rfl ?_
  refine bl_goto hC 18 dL_law_948 (by decide) ?_
  exact ih S' M' hRn
set_option maxRecDepth 100000 in
set_option maxHeartbeats 4000000 in
theorem law_case_6 {Γ : bd_G} {b L : Nat} {xs : Nat → Int32} {ε μ : bd_E} {R : bd_T → bd_T → Prop} (hC : bl_C Γ b L xs ε) (hy : bd_y μ = bd_y ε) (hR : bl_Rel R) {i : Nat} (hi5 : i + 5 ≤ L) (hL : L ≤ 2560) {S M : bd_T} (hRS : R S M) (ih : ∀ (S M : bd_T), R S M → bd_U Γ 4 71 23203 (cX ε S ++ cM μ M) 18 [(3, .int (nI (i + 5))), (2, .ref (bd_a μ 0)), (1, .ref (bd_a ε 0)), (0, .ref b)] []) : bd_U Γ 4 71 23203 (cX ε S ++ cM μ M) 354 [(3, .int (nI i)), (2, .ref (bd_a μ 0)), (1, .ref (bd_a ε 0)), (0, .ref b)] [] := by
  refine bl_aload_n hC 2 dL_law_354 rfl rfl ?_
  refine bl_aload_n hC 3 dL_law_355 rfl rfl ?_
  refine bl_iload_n hC 0 dL_law_356 rfl rfl ?_
  refine bl_iconst hC (1 : Int32) dL_law_357 rfl ?_
  refine bl_iadd hC dL_law_358 ?_
  rw [show nI i + (1 : Int32) = nI (i + 1) from nI_add i 1]
  refine bl_sld hC (vp_in_nI (show i + 1 < L by omega) (by omega)) dL_law_359 ?_
  rw [nI_clamp (by omega)]
  refine bl_aload_n hC 3 dL_law_360 rfl rfl ?_
  refine bl_iload_n hC 0 dL_law_361 rfl rfl ?_
  refine bl_iconst hC (2 : Int32) dL_law_362 rfl ?_
  refine bl_iadd hC dL_law_363 ?_
  rw [show nI i + (2 : Int32) = nI (i + 2) from nI_add i 2]
  refine bl_sld hC (vp_in_nI (show i + 2 < L by omega) (by omega)) dL_law_364 ?_
  rw [nI_clamp (by omega)]
  refine bl_aload_n hC 3 dL_law_365 rfl rfl ?_
  refine bl_iload_n hC 0 dL_law_366 rfl rfl ?_
  refine bl_iconst hC (3 : Int32) dL_law_367 rfl ?_
  refine bl_iadd hC dL_law_368 ?_
  rw [show nI i + (3 : Int32) = nI (i + 3) from nI_add i 3]
  refine bl_sld hC (vp_in_nI (show i + 3 < L by omega) (by omega)) dL_law_369 ?_
  rw [nI_clamp (by omega)]
  obtain ⟨r, S', M', hx, hm, hRn⟩ := hR.2.2.2.2.2.2.1 (xs (i + 1)) (xs (i + 2)) (xs (i + 3))  S M hRS
  refine bl_callX (ε' := ε) (cs := cX ε) (S := S) (S' := S') (r := r) (rm := ({ frames := 3, cells := 0, slots := 0, locals := 75 } : Room)) hC rfl [.int (xs (i + 1)), .int (xs (i + 2)), .int (xs (i + 3))] [] (c_X9_left (bd_l Γ) (bd_D Γ) ε (xs (i + 1)) (xs (i + 2)) (xs (i + 3)) S (by rw [hx]; rfl)) hx mw_294 mw_291 mw_292 mw_72 mw_293 (cX_o0 ε S) rfl by_X9_left ⟨rfl, rfl, Nat.le_of_ble_eq_true rfl, Nat.le_of_ble_eq_true rfl⟩ rfl rfl (Nat.le_of_ble_eq_true rfl) ⟨Nat.le_of_ble_eq_true rfl, Nat.le_of_ble_eq_true rfl⟩ dL_law_370 [.int r] rfl ?_
  refine bl_aload_n hC 1 dL_law_373 rfl rfl ?_
  refine bl_aload_n hC 3 dL_law_374 rfl rfl ?_
  refine bl_iload_n hC 0 dL_law_375 rfl rfl ?_
  refine bl_iconst hC (1 : Int32) dL_law_376 rfl ?_
  refine bl_iadd hC dL_law_377 ?_
  rw [show nI i + (1 : Int32) = nI (i + 1) from nI_add i 1]
  refine bl_sld hC (vp_in_nI (show i + 1 < L by omega) (by omega)) dL_law_378 ?_
  rw [nI_clamp (by omega)]
  refine bl_aload_n hC 3 dL_law_379 rfl rfl ?_
  refine bl_iload_n hC 0 dL_law_380 rfl rfl ?_
  refine bl_iconst hC (2 : Int32) dL_law_381 rfl ?_
  refine bl_iadd hC dL_law_382 ?_
  rw [show nI i + (2 : Int32) = nI (i + 2) from nI_add i 2]
  refine bl_sld hC (vp_in_nI (show i + 2 < L by omega) (by omega)) dL_law_383 ?_
  rw [nI_clamp (by omega)]
  refine bl_aload_n hC 3 dL_law_384 rfl rfl ?_
  refine bl_iload_n hC 0 dL_law_385 rfl rfl ?_
  refine bl_iconst hC (3 : Int32) dL_law_386 rfl ?_
  refine bl_iadd hC dL_law_387 ?_
  rw [show nI i + (3 : Int32) = nI (i + 3) from nI_add i 3]
  refine bl_sld hC (vp_in_nI (show i + 3 < L by omega) (by omega)) dL_law_388 ?_
  rw [nI_clamp (by omega)]
  refine bl_callM (ε' := μ) (cs := cM μ) (S := M) (S' := M') (r := r) (rm := ({ frames := 2, cells := 0, slots := 0, locals := 49 } : Room)) hC hy [.int (xs (i + 1)), .int (xs (i + 2)), .int (xs (i + 3))] [.int r] (c_X10_left (bd_l Γ) (bd_D Γ) μ (xs (i + 1)) (xs (i + 2)) (xs (i + 3)) M (by rw [hm]; rfl)) hm mw_686 mw_683 mw_684 mw_82 mw_685 (cM_o0 μ M) rfl by_X10_left ⟨rfl, rfl, Nat.le_of_ble_eq_true rfl, Nat.le_of_ble_eq_true rfl⟩ rfl rfl (Nat.le_of_ble_eq_true rfl) ⟨Nat.le_of_ble_eq_true rfl, Nat.le_of_ble_eq_true rfl⟩ dL_law_389 [.int r, .int r] rfl ?_
  refine bl_same hC 945 dL_law_392 (by decide) ?_
  refine bl_iinc hC 0 [(3, .int (nI (i + 5))), (2, .ref (bd_a μ 0)), (1, .ref (bd_a ε 0)), (0, .ref b)] dL_law_945 rfl (nI_add i 5) (by decide) rfl ?_
  refine bl_goto hC 18 dL_law_948 (by decide) ?_
  exact ih S' M' hRn
set_option maxRecDepth 100000 in
set_option maxHeartbeats 4000000 in
theorem law_case_7 {Γ : bd_G} {b L : Nat} {xs : Nat → Int32} {ε μ : bd_E} {R : bd_T → bd_T → Prop} (hC : bl_C Γ b L xs ε) (hy : bd_y μ = bd_y ε) (hR : bl_Rel R) {i : Nat} (hi5 : i + 5 ≤ L) (hL : L ≤ 2560) {S M : bd_T} (hRS : R S M) (ih : ∀ (S M : bd_T), R S M → bd_U Γ 4 71 23203 (cX ε S ++ cM μ M) 18 [(3, .int (nI (i + 5))), (2, .ref (bd_a μ 0)), (1, .ref (bd_a ε 0)), (0, .ref b)] []) : bd_U Γ 4 71 23203 (cX ε S ++ cM μ M) 397 [(3, .int (nI i)), (2, .ref (bd_a μ 0)), (1, .ref (bd_a ε 0)), (0, .ref b)] [] := by
  refine bl_aload_n hC 2 dL_law_397 rfl rfl ?_
  refine bl_aload_n hC 3 dL_law_398 rfl rfl ?_
  refine bl_iload_n hC 0 dL_law_399 rfl rfl ?_
  refine bl_iconst hC (1 : Int32) dL_law_400 rfl ?_
  refine bl_iadd hC dL_law_401 ?_
  rw [show nI i + (1 : Int32) = nI (i + 1) from nI_add i 1]
  refine bl_sld hC (vp_in_nI (show i + 1 < L by omega) (by omega)) dL_law_402 ?_
  rw [nI_clamp (by omega)]
  refine bl_aload_n hC 3 dL_law_403 rfl rfl ?_
  refine bl_iload_n hC 0 dL_law_404 rfl rfl ?_
  refine bl_iconst hC (2 : Int32) dL_law_405 rfl ?_
  refine bl_iadd hC dL_law_406 ?_
  rw [show nI i + (2 : Int32) = nI (i + 2) from nI_add i 2]
  refine bl_sld hC (vp_in_nI (show i + 2 < L by omega) (by omega)) dL_law_407 ?_
  rw [nI_clamp (by omega)]
  refine bl_aload_n hC 3 dL_law_408 rfl rfl ?_
  refine bl_iload_n hC 0 dL_law_409 rfl rfl ?_
  refine bl_iconst hC (3 : Int32) dL_law_410 rfl ?_
  refine bl_iadd hC dL_law_411 ?_
  rw [show nI i + (3 : Int32) = nI (i + 3) from nI_add i 3]
  refine bl_sld hC (vp_in_nI (show i + 3 < L by omega) (by omega)) dL_law_412 ?_
  rw [nI_clamp (by omega)]
  refine bl_aload_n hC 3 dL_law_413 rfl rfl ?_
  refine bl_iload_n hC 0 dL_law_414 rfl rfl ?_
  refine bl_iconst hC (4 : Int32) dL_law_415 rfl ?_
  refine bl_iadd hC dL_law_416 ?_
  rw [show nI i + (4 : Int32) = nI (i + 4) from nI_add i 4]
  refine bl_sld hC (vp_in_nI (show i + 4 < L by omega) (by omega)) dL_law_417 ?_
  rw [nI_clamp (by omega)]
  obtain ⟨r, S', M', hx, hm, hRn⟩ := hR.2.2.2.2.2.2.2.1 (xs (i + 1)) (xs (i + 2)) (xs (i + 3)) (xs (i + 4))  S M hRS
  refine bl_callX (ε' := ε) (cs := cX ε) (S := S) (S' := S') (r := r) (rm := ({ frames := 2, cells := 0, slots := 0, locals := 46 } : Room)) hC rfl [.int (xs (i + 1)), .int (xs (i + 2)), .int (xs (i + 3)), .int (xs (i + 4))] [] (c_X9_look (bd_l Γ) (bd_D Γ) ε (xs (i + 1)) (xs (i + 2)) (xs (i + 3)) (xs (i + 4)) S (by rw [hx]; rfl)) hx mw_318 mw_315 mw_316 mw_72 mw_317 (cX_o0 ε S) rfl by_X9_look ⟨rfl, rfl, Nat.le_of_ble_eq_true rfl, Nat.le_of_ble_eq_true rfl⟩ rfl rfl (Nat.le_of_ble_eq_true rfl) ⟨Nat.le_of_ble_eq_true rfl, Nat.le_of_ble_eq_true rfl⟩ dL_law_418 [.int r] rfl ?_
  refine bl_aload_n hC 1 dL_law_421 rfl rfl ?_
  refine bl_aload_n hC 3 dL_law_422 rfl rfl ?_
  refine bl_iload_n hC 0 dL_law_423 rfl rfl ?_
  refine bl_iconst hC (1 : Int32) dL_law_424 rfl ?_
  refine bl_iadd hC dL_law_425 ?_
  rw [show nI i + (1 : Int32) = nI (i + 1) from nI_add i 1]
  refine bl_sld hC (vp_in_nI (show i + 1 < L by omega) (by omega)) dL_law_426 ?_
  rw [nI_clamp (by omega)]
  refine bl_aload_n hC 3 dL_law_427 rfl rfl ?_
  refine bl_iload_n hC 0 dL_law_428 rfl rfl ?_
  refine bl_iconst hC (2 : Int32) dL_law_429 rfl ?_
  refine bl_iadd hC dL_law_430 ?_
  rw [show nI i + (2 : Int32) = nI (i + 2) from nI_add i 2]
  refine bl_sld hC (vp_in_nI (show i + 2 < L by omega) (by omega)) dL_law_431 ?_
  rw [nI_clamp (by omega)]
  refine bl_aload_n hC 3 dL_law_432 rfl rfl ?_
  refine bl_iload_n hC 0 dL_law_433 rfl rfl ?_
  refine bl_iconst hC (3 : Int32) dL_law_434 rfl ?_
  refine bl_iadd hC dL_law_435 ?_
  rw [show nI i + (3 : Int32) = nI (i + 3) from nI_add i 3]
  refine bl_sld hC (vp_in_nI (show i + 3 < L by omega) (by omega)) dL_law_436 ?_
  rw [nI_clamp (by omega)]
  refine bl_aload_n hC 3 dL_law_437 rfl rfl ?_
  refine bl_iload_n hC 0 dL_law_438 rfl rfl ?_
  refine bl_iconst hC (4 : Int32) dL_law_439 rfl ?_
  refine bl_iadd hC dL_law_440 ?_
  rw [show nI i + (4 : Int32) = nI (i + 4) from nI_add i 4]
  refine bl_sld hC (vp_in_nI (show i + 4 < L by omega) (by omega)) dL_law_441 ?_
  rw [nI_clamp (by omega)]
  refine bl_callM (ε' := μ) (cs := cM μ) (S := M) (S' := M') (r := r) (rm := ({ frames := 1, cells := 0, slots := 0, locals := 21 } : Room)) hC hy [.int (xs (i + 1)), .int (xs (i + 2)), .int (xs (i + 3)), .int (xs (i + 4))] [.int r] (c_X10_look (bd_l Γ) (bd_D Γ) μ (xs (i + 1)) (xs (i + 2)) (xs (i + 3)) (xs (i + 4)) M (by rw [hm]; rfl)) hm mw_702 mw_699 mw_700 mw_82 mw_701 (cM_o0 μ M) rfl by_X10_look ⟨rfl, rfl, Nat.le_of_ble_eq_true rfl, Nat.le_of_ble_eq_true rfl⟩ rfl rfl (Nat.le_of_ble_eq_true rfl) ⟨Nat.le_of_ble_eq_true rfl, Nat.le_of_ble_eq_true rfl⟩ dL_law_442 [.int r, .int r] rfl ?_
  refine bl_same hC 945 dL_law_445 (by decide) ?_
  refine bl_iinc hC 0 [(3, .int (nI (i + 5))), (2, .ref (bd_a μ 0)), (1, .ref (bd_a ε 0)), (0, .ref b)] dL_law_945 rfl (nI_add i 5) (by decide) rfl ?_
  refine bl_goto hC 18 dL_law_948 (by decide) ?_
  exact ih S' M' hRn
set_option maxRecDepth 100000 in
set_option maxHeartbeats 4000000 in
theorem law_case_8 {Γ : bd_G} {b L : Nat} {xs : Nat → Int32} {ε μ : bd_E} {R : bd_T → bd_T → Prop} (hC : bl_C Γ b L xs ε) (hy : bd_y μ = bd_y ε) (hR : bl_Rel R) {i : Nat} (hi5 : i + 5 ≤ L) (hL : L ≤ 2560) {S M : bd_T} (hRS : R S M) (ih : ∀ (S M : bd_T), R S M → bd_U Γ 4 71 23203 (cX ε S ++ cM μ M) 18 [(3, .int (nI (i + 5))), (2, .ref (bd_a μ 0)), (1, .ref (bd_a ε 0)), (0, .ref b)] []) : bd_U Γ 4 71 23203 (cX ε S ++ cM μ M) 450 [(3, .int (nI i)), (2, .ref (bd_a μ 0)), (1, .ref (bd_a ε 0)), (0, .ref b)] [] := by
  refine bl_aload_n hC 2 dL_law_450 rfl rfl ?_
  refine bl_aload_n hC 3 dL_law_451 rfl rfl ?_
  refine bl_iload_n hC 0 dL_law_452 rfl rfl ?_
  refine bl_iconst hC (1 : Int32) dL_law_453 rfl ?_
  refine bl_iadd hC dL_law_454 ?_
  rw [show nI i + (1 : Int32) = nI (i + 1) from nI_add i 1]
  refine bl_sld hC (vp_in_nI (show i + 1 < L by omega) (by omega)) dL_law_455 ?_
  rw [nI_clamp (by omega)]
  refine bl_aload_n hC 3 dL_law_456 rfl rfl ?_
  refine bl_iload_n hC 0 dL_law_457 rfl rfl ?_
  refine bl_iconst hC (2 : Int32) dL_law_458 rfl ?_
  refine bl_iadd hC dL_law_459 ?_
  rw [show nI i + (2 : Int32) = nI (i + 2) from nI_add i 2]
  refine bl_sld hC (vp_in_nI (show i + 2 < L by omega) (by omega)) dL_law_460 ?_
  rw [nI_clamp (by omega)]
  refine bl_if_eq hC 468 dL_law_461 (by decide) (fun hz => ?_) (fun hz => ?_)
  · refine bl_iconst hC (0 : Int32) dL_law_468 rfl ?_
    obtain ⟨r, S', M', hx, hm, hRn⟩ := hR.2.2.2.2.2.2.2.2.1 (xs (i + 1)) (0 : Int32) (by decide) S M hRS
    refine bl_callX (ε' := ε) (cs := cX ε) (S := S) (S' := S') (r := r) (rm := ({ frames := 2, cells := 0, slots := 0, locals := 43 } : Room)) hC rfl [.int (xs (i + 1)), .int (0 : Int32)] [] (c_X9_doubt (bd_l Γ) (bd_D Γ) ε (xs (i + 1)) (0 : Int32) S (by rw [hx]; rfl)) hx mw_324 mw_321 mw_322 mw_72 mw_323 (cX_o0 ε S) rfl by_X9_doubt ⟨rfl, rfl, Nat.le_of_ble_eq_true rfl, Nat.le_of_ble_eq_true rfl⟩ rfl rfl (Nat.le_of_ble_eq_true rfl) ⟨Nat.le_of_ble_eq_true rfl, Nat.le_of_ble_eq_true rfl⟩ dL_law_469 [.int r] rfl ?_
    refine bl_aload_n hC 1 dL_law_472 rfl rfl ?_
    refine bl_aload_n hC 3 dL_law_473 rfl rfl ?_
    refine bl_iload_n hC 0 dL_law_474 rfl rfl ?_
    refine bl_iconst hC (1 : Int32) dL_law_475 rfl ?_
    refine bl_iadd hC dL_law_476 ?_
    rw [show nI i + (1 : Int32) = nI (i + 1) from nI_add i 1]
    refine bl_sld hC (vp_in_nI (show i + 1 < L by omega) (by omega)) dL_law_477 ?_
    rw [nI_clamp (by omega)]
    refine bl_aload_n hC 3 dL_law_478 rfl rfl ?_
    refine bl_iload_n hC 0 dL_law_479 rfl rfl ?_
    refine bl_iconst hC (2 : Int32) dL_law_480 rfl ?_
    refine bl_iadd hC dL_law_481 ?_
    rw [show nI i + (2 : Int32) = nI (i + 2) from nI_add i 2]
    refine bl_sld hC (vp_in_nI (show i + 2 < L by omega) (by omega)) dL_law_482 ?_
    rw [nI_clamp (by omega)]
    refine bl_if_eq hC 490 dL_law_483 (by decide) (fun _ => ?_) (fun z => absurd hz z)
    refine bl_iconst hC (0 : Int32) dL_law_490 rfl ?_
    refine bl_callM (ε' := μ) (cs := cM μ) (S := M) (S' := M') (r := r) (rm := ({ frames := 1, cells := 0, slots := 0, locals := 22 } : Room)) hC hy [.int (xs (i + 1)), .int (0 : Int32)] [.int r] (c_X10_doubt (bd_l Γ) (bd_D Γ) μ (xs (i + 1)) (0 : Int32) M (by rw [hm]; rfl)) hm mw_706 mw_703 mw_704 mw_82 mw_705 (cM_o0 μ M) rfl by_X10_doubt ⟨rfl, rfl, Nat.le_of_ble_eq_true rfl, Nat.le_of_ble_eq_true rfl⟩ rfl rfl (Nat.le_of_ble_eq_true rfl) ⟨Nat.le_of_ble_eq_true rfl, Nat.le_of_ble_eq_true rfl⟩ dL_law_491 [.int r, .int r] rfl ?_
    refine bl_same hC 945 dL_law_494 (by decide) ?_
    refine bl_iinc hC 0 [(3, .int (nI (i + 5))), (2, .ref (bd_a μ 0)), (1, .ref (bd_a ε 0)), (0, .ref b)] dL_law_945 rfl (nI_add i 5) (by decide) rfl ?_
    refine bl_goto hC 18 dL_law_948 (by decide) ?_
    exact ih S' M' hRn
  refine bl_iconst hC (1 : Int32) dL_law_464 rfl ?_
  refine bl_goto hC 469 dL_law_465 (by decide) ?_
  obtain ⟨r, S', M', hx, hm, hRn⟩ := hR.2.2.2.2.2.2.2.2.1 (xs (i + 1)) (1 : Int32) (by decide) S M hRS
  refine bl_callX (ε' := ε) (cs := cX ε) (S := S) (S' := S') (r := r) (rm := ({ frames := 2, cells := 0, slots := 0, locals := 43 } : Room)) hC rfl [.int (xs (i + 1)), .int (1 : Int32)] [] (c_X9_doubt (bd_l Γ) (bd_D Γ) ε (xs (i + 1)) (1 : Int32) S (by rw [hx]; rfl)) hx mw_324 mw_321 mw_322 mw_72 mw_323 (cX_o0 ε S) rfl by_X9_doubt ⟨rfl, rfl, Nat.le_of_ble_eq_true rfl, Nat.le_of_ble_eq_true rfl⟩ rfl rfl (Nat.le_of_ble_eq_true rfl) ⟨Nat.le_of_ble_eq_true rfl, Nat.le_of_ble_eq_true rfl⟩ dL_law_469 [.int r] rfl ?_
  refine bl_aload_n hC 1 dL_law_472 rfl rfl ?_
  refine bl_aload_n hC 3 dL_law_473 rfl rfl ?_
  refine bl_iload_n hC 0 dL_law_474 rfl rfl ?_
  refine bl_iconst hC (1 : Int32) dL_law_475 rfl ?_
  refine bl_iadd hC dL_law_476 ?_
  rw [show nI i + (1 : Int32) = nI (i + 1) from nI_add i 1]
  refine bl_sld hC (vp_in_nI (show i + 1 < L by omega) (by omega)) dL_law_477 ?_
  rw [nI_clamp (by omega)]
  refine bl_aload_n hC 3 dL_law_478 rfl rfl ?_
  refine bl_iload_n hC 0 dL_law_479 rfl rfl ?_
  refine bl_iconst hC (2 : Int32) dL_law_480 rfl ?_
  refine bl_iadd hC dL_law_481 ?_
  rw [show nI i + (2 : Int32) = nI (i + 2) from nI_add i 2]
  refine bl_sld hC (vp_in_nI (show i + 2 < L by omega) (by omega)) dL_law_482 ?_
  rw [nI_clamp (by omega)]
  refine bl_if_eq hC 490 dL_law_483 (by decide) (fun z => absurd z hz) (fun _ => ?_)
  refine bl_iconst hC (1 : Int32) dL_law_486 rfl ?_
  refine bl_goto hC 491 dL_law_487 (by decide) ?_
  refine bl_callM (ε' := μ) (cs := cM μ) (S := M) (S' := M') (r := r) (rm := ({ frames := 1, cells := 0, slots := 0, locals := 22 } : Room)) hC hy [.int (xs (i + 1)), .int (1 : Int32)] [.int r] (c_X10_doubt (bd_l Γ) (bd_D Γ) μ (xs (i + 1)) (1 : Int32) M (by rw [hm]; rfl)) hm mw_706 mw_703 mw_704 mw_82 mw_705 (cM_o0 μ M) rfl by_X10_doubt ⟨rfl, rfl, Nat.le_of_ble_eq_true rfl, Nat.le_of_ble_eq_true rfl⟩ rfl rfl (Nat.le_of_ble_eq_true rfl) ⟨Nat.le_of_ble_eq_true rfl, Nat.le_of_ble_eq_true rfl⟩ dL_law_491 [.int r, .int r] rfl ?_
  refine bl_same hC 945 dL_law_494 (by decide) ?_
  refine bl_iinc hC 0 [(3, .int (nI (i + 5))), (2, .ref (bd_a μ 0)), (1, .ref (bd_a ε 0)), (0, .ref b)] dL_law_945 rfl (nI_add i 5) (by decide) rfl ?_
  refine bl_goto hC 18 dL_law_948 (by decide) ?_
  exact ih S' M' hRn
set_option maxRecDepth 100000 in
set_option maxHeartbeats 4000000 in
theorem law_case_9 {Γ : bd_G} {b L : Nat} {xs : Nat → Int32} {ε μ : bd_E} {R : bd_T → bd_T → Prop} (hC : bl_C Γ b L xs ε) (hy : bd_y μ = bd_y ε) (hR : bl_Rel R) {i : Nat} (hi5 : i + 5 ≤ L) (hL : L ≤ 2560) {S M : bd_T} (hRS : R S M) (ih : ∀ (S M : bd_T), R S M → bd_U Γ 4 71 23203 (cX ε S ++ cM μ M) 18 [(3, .int (nI (i + 5))), (2, .ref (bd_a μ 0)), (1, .ref (bd_a ε 0)), (0, .ref b)] []) : bd_U Γ 4 71 23203 (cX ε S ++ cM μ M) 499 [(3, .int (nI i)), (2, .ref (bd_a μ 0)), (1, .ref (bd_a ε 0)), (0, .ref b)] [] := by
  refine bl_aload_n hC 2 dL_law_499 rfl rfl ?_
  refine bl_aload_n hC 3 dL_law_500 rfl rfl ?_
  refine bl_iload_n hC 0 dL_law_501 rfl rfl ?_
  refine bl_iconst hC (1 : Int32) dL_law_502 rfl ?_
  refine bl_iadd hC dL_law_503 ?_
  rw [show nI i + (1 : Int32) = nI (i + 1) from nI_add i 1]
  refine bl_sld hC (vp_in_nI (show i + 1 < L by omega) (by omega)) dL_law_504 ?_
  rw [nI_clamp (by omega)]
  refine bl_aload_n hC 3 dL_law_505 rfl rfl ?_
  refine bl_iload_n hC 0 dL_law_506 rfl rfl ?_
  refine bl_iconst hC (2 : Int32) dL_law_507 rfl ?_
  refine bl_iadd hC dL_law_508 ?_
  rw [show nI i + (2 : Int32) = nI (i + 2) from nI_add i 2]
  refine bl_sld hC (vp_in_nI (show i + 2 < L by omega) (by omega)) dL_law_509 ?_
  rw [nI_clamp (by omega)]
  refine bl_aload_n hC 3 dL_law_510 rfl rfl ?_
  refine bl_iload_n hC 0 dL_law_511 rfl rfl ?_
  refine bl_iconst hC (3 : Int32) dL_law_512 rfl ?_
  refine bl_iadd hC dL_law_513 ?_
  rw [show nI i + (3 : Int32) = nI (i + 3) from nI_add i 3]
  refine bl_sld hC (vp_in_nI (show i + 3 < L by omega) (by omega)) dL_law_514 ?_
  rw [nI_clamp (by omega)]
  refine bl_aload_n hC 3 dL_law_515 rfl rfl ?_
  refine bl_iload_n hC 0 dL_law_516 rfl rfl ?_
  refine bl_iconst hC (4 : Int32) dL_law_517 rfl ?_
  refine bl_iadd hC dL_law_518 ?_
  rw [show nI i + (4 : Int32) = nI (i + 4) from nI_add i 4]
  refine bl_sld hC (vp_in_nI (show i + 4 < L by omega) (by omega)) dL_law_519 ?_
  rw [nI_clamp (by omega)]
  obtain ⟨r, S', M', hx, hm, hRn⟩ := hR.2.2.2.2.2.2.2.2.2.1 (xs (i + 1)) (xs (i + 2)) (xs (i + 3)) (xs (i + 4))  S M hRS
  refine bl_callX (ε' := ε) (cs := cX ε) (S := S) (S' := S') (r := r) (rm := ({ frames := 2, cells := 0, slots := 0, locals := 46 } : Room)) hC rfl [.int (xs (i + 1)), .int (xs (i + 2)), .int (xs (i + 3)), .int (xs (i + 4))] [] (c_X9_join (bd_l Γ) (bd_D Γ) ε (xs (i + 1)) (xs (i + 2)) (xs (i + 3)) (xs (i + 4)) S (by rw [hx]; rfl)) hx mw_330 mw_327 mw_328 mw_72 mw_329 (cX_o0 ε S) rfl by_X9_join ⟨rfl, rfl, Nat.le_of_ble_eq_true rfl, Nat.le_of_ble_eq_true rfl⟩ rfl rfl (Nat.le_of_ble_eq_true rfl) ⟨Nat.le_of_ble_eq_true rfl, Nat.le_of_ble_eq_true rfl⟩ dL_law_520 [.int r] rfl ?_
  refine bl_aload_n hC 1 dL_law_523 rfl rfl ?_
  refine bl_aload_n hC 3 dL_law_524 rfl rfl ?_
  refine bl_iload_n hC 0 dL_law_525 rfl rfl ?_
  refine bl_iconst hC (1 : Int32) dL_law_526 rfl ?_
  refine bl_iadd hC dL_law_527 ?_
  rw [show nI i + (1 : Int32) = nI (i + 1) from nI_add i 1]
  refine bl_sld hC (vp_in_nI (show i + 1 < L by omega) (by omega)) dL_law_528 ?_
  rw [nI_clamp (by omega)]
  refine bl_aload_n hC 3 dL_law_529 rfl rfl ?_
  refine bl_iload_n hC 0 dL_law_530 rfl rfl ?_
  refine bl_iconst hC (2 : Int32) dL_law_531 rfl ?_
  refine bl_iadd hC dL_law_532 ?_
  rw [show nI i + (2 : Int32) = nI (i + 2) from nI_add i 2]
  refine bl_sld hC (vp_in_nI (show i + 2 < L by omega) (by omega)) dL_law_533 ?_
  rw [nI_clamp (by omega)]
  refine bl_aload_n hC 3 dL_law_534 rfl rfl ?_
  refine bl_iload_n hC 0 dL_law_535 rfl rfl ?_
  refine bl_iconst hC (3 : Int32) dL_law_536 rfl ?_
  refine bl_iadd hC dL_law_537 ?_
  rw [show nI i + (3 : Int32) = nI (i + 3) from nI_add i 3]
  refine bl_sld hC (vp_in_nI (show i + 3 < L by omega) (by omega)) dL_law_538 ?_
  rw [nI_clamp (by omega)]
  refine bl_aload_n hC 3 dL_law_539 rfl rfl ?_
  refine bl_iload_n hC 0 dL_law_540 rfl rfl ?_
  refine bl_iconst hC (4 : Int32) dL_law_541 rfl ?_
  refine bl_iadd hC dL_law_542 ?_
  rw [show nI i + (4 : Int32) = nI (i + 4) from nI_add i 4]
  refine bl_sld hC (vp_in_nI (show i + 4 < L by omega) (by omega)) dL_law_543 ?_
  rw [nI_clamp (by omega)]
  refine bl_callM (ε' := μ) (cs := cM μ) (S := M) (S' := M') (r := r) (rm := ({ frames := 1, cells := 0, slots := 0, locals := 22 } : Room)) hC hy [.int (xs (i + 1)), .int (xs (i + 2)), .int (xs (i + 3)), .int (xs (i + 4))] [.int r] (c_X10_join (bd_l Γ) (bd_D Γ) μ (xs (i + 1)) (xs (i + 2)) (xs (i + 3)) (xs (i + 4)) M (by rw [hm]; rfl)) hm mw_710 mw_707 mw_708 mw_82 mw_709 (cM_o0 μ M) rfl by_X10_join ⟨rfl, rfl, Nat.le_of_ble_eq_true rfl, Nat.le_of_ble_eq_true rfl⟩ rfl rfl (Nat.le_of_ble_eq_true rfl) ⟨Nat.le_of_ble_eq_true rfl, Nat.le_of_ble_eq_true rfl⟩ dL_law_544 [.int r, .int r] rfl ?_
  refine bl_same hC 945 dL_law_547 (by decide) ?_
  refine bl_iinc hC 0 [(3, .int (nI (i + 5))), (2, .ref (bd_a μ 0)), (1, .ref (bd_a ε 0)), (0, .ref b)] dL_law_945 rfl (nI_add i 5) (by decide) rfl ?_
  refine bl_goto hC 18 dL_law_948 (by decide) ?_
  exact ih S' M' hRn
set_option maxRecDepth 100000 in
set_option maxHeartbeats 4000000 in
theorem law_case_10 {Γ : bd_G} {b L : Nat} {xs : Nat → Int32} {ε μ : bd_E} {R : bd_T → bd_T → Prop} (hC : bl_C Γ b L xs ε) (hy : bd_y μ = bd_y ε) (hR : bl_Rel R) {i : Nat} (hi5 : i + 5 ≤ L) (hL : L ≤ 2560) {S M : bd_T} (hRS : R S M) (ih : ∀ (S M : bd_T), R S M → bd_U Γ 4 71 23203 (cX ε S ++ cM μ M) 18 [(3, .int (nI (i + 5))), (2, .ref (bd_a μ 0)), (1, .ref (bd_a ε 0)), (0, .ref b)] []) : bd_U Γ 4 71 23203 (cX ε S ++ cM μ M) 552 [(3, .int (nI i)), (2, .ref (bd_a μ 0)), (1, .ref (bd_a ε 0)), (0, .ref b)] [] := by
  refine bl_aload_n hC 2 dL_law_552 rfl rfl ?_
  refine bl_aload_n hC 3 dL_law_553 rfl rfl ?_
  refine bl_iload_n hC 0 dL_law_554 rfl rfl ?_
  refine bl_iconst hC (1 : Int32) dL_law_555 rfl ?_
  refine bl_iadd hC dL_law_556 ?_
  rw [show nI i + (1 : Int32) = nI (i + 1) from nI_add i 1]
  refine bl_sld hC (vp_in_nI (show i + 1 < L by omega) (by omega)) dL_law_557 ?_
  rw [nI_clamp (by omega)]
  obtain ⟨r, S', M', hx, hm, hRn⟩ := hR.2.2.2.2.2.2.2.2.2.2.1 (xs (i + 1))  S M hRS
  refine bl_callX (ε' := ε) (cs := cX ε) (S := S) (S' := S') (r := r) (rm := ({ frames := 6, cells := 0, slots := 0, locals := 149 } : Room)) hC rfl [.int (xs (i + 1))] [] (c_X9_alone (bd_l Γ) (bd_D Γ) ε (xs (i + 1)) S (by rw [hx]; rfl)) hx mw_337 mw_334 mw_335 mw_72 mw_336 (cX_o0 ε S) rfl by_X9_alone ⟨rfl, rfl, Nat.le_of_ble_eq_true rfl, Nat.le_of_ble_eq_true rfl⟩ rfl rfl (Nat.le_of_ble_eq_true rfl) ⟨Nat.le_of_ble_eq_true rfl, Nat.le_of_ble_eq_true rfl⟩ dL_law_558 [.int r] rfl ?_
  refine bl_aload_n hC 1 dL_law_561 rfl rfl ?_
  refine bl_aload_n hC 3 dL_law_562 rfl rfl ?_
  refine bl_iload_n hC 0 dL_law_563 rfl rfl ?_
  refine bl_iconst hC (1 : Int32) dL_law_564 rfl ?_
  refine bl_iadd hC dL_law_565 ?_
  rw [show nI i + (1 : Int32) = nI (i + 1) from nI_add i 1]
  refine bl_sld hC (vp_in_nI (show i + 1 < L by omega) (by omega)) dL_law_566 ?_
  rw [nI_clamp (by omega)]
  refine bl_callM (ε' := μ) (cs := cM μ) (S := M) (S' := M') (r := r) (rm := ({ frames := 4, cells := 0, slots := 0, locals := 94 } : Room)) hC hy [.int (xs (i + 1))] [.int r] (c_X10_alone (bd_l Γ) (bd_D Γ) μ (xs (i + 1)) M (by rw [hm]; rfl)) hm mw_714 mw_711 mw_712 mw_82 mw_713 (cM_o0 μ M) rfl by_X10_alone ⟨rfl, rfl, Nat.le_of_ble_eq_true rfl, Nat.le_of_ble_eq_true rfl⟩ rfl rfl (Nat.le_of_ble_eq_true rfl) ⟨Nat.le_of_ble_eq_true rfl, Nat.le_of_ble_eq_true rfl⟩ dL_law_567 [.int r, .int r] rfl ?_
  refine bl_same hC 945 dL_law_570 (by decide) ?_
  refine bl_iinc hC 0 [(3, .int (nI (i + 5))), (2, .ref (bd_a μ 0)), (1, .ref (bd_a ε 0)), (0, .ref b)] dL_law_945 rfl (nI_add i 5) (by decide) rfl ?_
  refine bl_goto hC 18 dL_law_948 (by decide) ?_
  exact ih S' M' hRn
set_option maxRecDepth 100000 in
set_option maxHeartbeats 4000000 in
theorem law_case_11 {Γ : bd_G} {b L : Nat} {xs : Nat → Int32} {ε μ : bd_E} {R : bd_T → bd_T → Prop} (hC : bl_C Γ b L xs ε) (hy : bd_y μ = bd_y ε) (hR : bl_Rel R) {i : Nat} (hi5 : i + 5 ≤ L) (hL : L ≤ 2560) {S M : bd_T} (hRS : R S M) (ih : ∀ (S M : bd_T), R S M → bd_U Γ 4 71 23203 (cX ε S ++ cM μ M) 18 [(3, .int (nI (i + 5))), (2, .ref (bd_a μ 0)), (1, .ref (bd_a ε 0)), (0, .ref b)] []) : bd_U Γ 4 71 23203 (cX ε S ++ cM μ M) 575 [(3, .int (nI i)), (2, .ref (bd_a μ 0)), (1, .ref (bd_a ε 0)), (0, .ref b)] [] := by
  refine bl_aload_n hC 2 dL_law_575 rfl rfl ?_
  refine bl_aload_n hC 3 dL_law_576 rfl rfl ?_
  refine bl_iload_n hC 0 dL_law_577 rfl rfl ?_
  refine bl_iconst hC (1 : Int32) dL_law_578 rfl ?_
  refine bl_iadd hC dL_law_579 ?_
  rw [show nI i + (1 : Int32) = nI (i + 1) from nI_add i 1]
  refine bl_sld hC (vp_in_nI (show i + 1 < L by omega) (by omega)) dL_law_580 ?_
  rw [nI_clamp (by omega)]
  refine bl_aload_n hC 3 dL_law_581 rfl rfl ?_
  refine bl_iload_n hC 0 dL_law_582 rfl rfl ?_
  refine bl_iconst hC (2 : Int32) dL_law_583 rfl ?_
  refine bl_iadd hC dL_law_584 ?_
  rw [show nI i + (2 : Int32) = nI (i + 2) from nI_add i 2]
  refine bl_sld hC (vp_in_nI (show i + 2 < L by omega) (by omega)) dL_law_585 ?_
  rw [nI_clamp (by omega)]
  obtain ⟨r, S', M', hx, hm, hRn⟩ := hR.2.2.2.2.2.2.2.2.2.2.2.1 (xs (i + 1)) (xs (i + 2))  S M hRS
  refine bl_callX (ε' := ε) (cs := cX ε) (S := S) (S' := S') (r := r) (rm := ({ frames := 6, cells := 0, slots := 0, locals := 149 } : Room)) hC rfl [.int (xs (i + 1)), .int (xs (i + 2))] [] (c_X9_can (bd_l Γ) (bd_D Γ) ε (xs (i + 1)) (xs (i + 2)) S (by rw [hx]; rfl)) hx mw_354 mw_351 mw_352 mw_72 mw_353 (cX_o0 ε S) rfl by_X9_can ⟨rfl, rfl, Nat.le_of_ble_eq_true rfl, Nat.le_of_ble_eq_true rfl⟩ rfl rfl (Nat.le_of_ble_eq_true rfl) ⟨Nat.le_of_ble_eq_true rfl, Nat.le_of_ble_eq_true rfl⟩ dL_law_586 [.int r] rfl ?_
  refine bl_aload_n hC 1 dL_law_589 rfl rfl ?_
  refine bl_aload_n hC 3 dL_law_590 rfl rfl ?_
  refine bl_iload_n hC 0 dL_law_591 rfl rfl ?_
  refine bl_iconst hC (1 : Int32) dL_law_592 rfl ?_
  refine bl_iadd hC dL_law_593 ?_
  rw [show nI i + (1 : Int32) = nI (i + 1) from nI_add i 1]
  refine bl_sld hC (vp_in_nI (show i + 1 < L by omega) (by omega)) dL_law_594 ?_
  rw [nI_clamp (by omega)]
  refine bl_aload_n hC 3 dL_law_595 rfl rfl ?_
  refine bl_iload_n hC 0 dL_law_596 rfl rfl ?_
  refine bl_iconst hC (2 : Int32) dL_law_597 rfl ?_
  refine bl_iadd hC dL_law_598 ?_
  rw [show nI i + (2 : Int32) = nI (i + 2) from nI_add i 2]
  refine bl_sld hC (vp_in_nI (show i + 2 < L by omega) (by omega)) dL_law_599 ?_
  rw [nI_clamp (by omega)]
  refine bl_callM (ε' := μ) (cs := cM μ) (S := M) (S' := M') (r := r) (rm := ({ frames := 4, cells := 0, slots := 0, locals := 94 } : Room)) hC hy [.int (xs (i + 1)), .int (xs (i + 2))] [.int r] (c_X10_can (bd_l Γ) (bd_D Γ) μ (xs (i + 1)) (xs (i + 2)) M (by rw [hm]; rfl)) hm mw_733 mw_730 mw_731 mw_82 mw_732 (cM_o0 μ M) rfl by_X10_can ⟨rfl, rfl, Nat.le_of_ble_eq_true rfl, Nat.le_of_ble_eq_true rfl⟩ rfl rfl (Nat.le_of_ble_eq_true rfl) ⟨Nat.le_of_ble_eq_true rfl, Nat.le_of_ble_eq_true rfl⟩ dL_law_600 [.int r, .int r] rfl ?_
  refine bl_same hC 945 dL_law_603 (by decide) ?_
  refine bl_iinc hC 0 [(3, .int (nI (i + 5))), (2, .ref (bd_a μ 0)), (1, .ref (bd_a ε 0)), (0, .ref b)] dL_law_945 rfl (nI_add i 5) (by decide) rfl ?_
  refine bl_goto hC 18 dL_law_948 (by decide) ?_
  exact ih S' M' hRn
set_option maxRecDepth 100000 in
set_option maxHeartbeats 4000000 in
theorem law_case_12 {Γ : bd_G} {b L : Nat} {xs : Nat → Int32} {ε μ : bd_E} {R : bd_T → bd_T → Prop} (hC : bl_C Γ b L xs ε) (hy : bd_y μ = bd_y ε) (hR : bl_Rel R) {i : Nat} (hi5 : i + 5 ≤ L) (hL : L ≤ 2560) {S M : bd_T} (hRS : R S M) (ih : ∀ (S M : bd_T), R S M → bd_U Γ 4 71 23203 (cX ε S ++ cM μ M) 18 [(3, .int (nI (i + 5))), (2, .ref (bd_a μ 0)), (1, .ref (bd_a ε 0)), (0, .ref b)] []) : bd_U Γ 4 71 23203 (cX ε S ++ cM μ M) 608 [(3, .int (nI i)), (2, .ref (bd_a μ 0)), (1, .ref (bd_a ε 0)), (0, .ref b)] [] := by
  refine bl_aload_n hC 2 dL_law_608 rfl rfl ?_
  obtain ⟨r, S', M', hx, hm, hRn⟩ := hR.2.2.2.2.2.2.2.2.2.2.2.2.1   S M hRS
  refine bl_callX (ε' := ε) (cs := cX ε) (S := S) (S' := S') (r := r) (rm := ({ frames := 6, cells := 0, slots := 0, locals := 149 } : Room)) hC rfl [] [] (c_X9_ways (bd_l Γ) (bd_D Γ) ε S (by rw [hx]; rfl)) hx mw_358 mw_355 mw_356 mw_72 mw_357 (cX_o0 ε S) rfl by_X9_ways ⟨rfl, rfl, Nat.le_of_ble_eq_true rfl, Nat.le_of_ble_eq_true rfl⟩ rfl rfl (Nat.le_of_ble_eq_true rfl) ⟨Nat.le_of_ble_eq_true rfl, Nat.le_of_ble_eq_true rfl⟩ dL_law_609 [.long r] rfl ?_
  refine bl_aload_n hC 1 dL_law_612 rfl rfl ?_
  refine bl_callM (ε' := μ) (cs := cM μ) (S := M) (S' := M') (r := r) (rm := ({ frames := 4, cells := 0, slots := 0, locals := 94 } : Room)) hC hy [] [.long r] (c_X10_ways (bd_l Γ) (bd_D Γ) μ M (by rw [hm]; rfl)) hm mw_737 mw_734 mw_735 mw_82 mw_736 (cM_o0 μ M) rfl by_X10_ways ⟨rfl, rfl, Nat.le_of_ble_eq_true rfl, Nat.le_of_ble_eq_true rfl⟩ rfl rfl (Nat.le_of_ble_eq_true rfl) ⟨Nat.le_of_ble_eq_true rfl, Nat.le_of_ble_eq_true rfl⟩ dL_law_613 [.long r, .long r] rfl ?_
  refine bl_sameL hC 945 dL_law_616 dL_law_617 (by decide) ?_
  refine bl_iinc hC 0 [(3, .int (nI (i + 5))), (2, .ref (bd_a μ 0)), (1, .ref (bd_a ε 0)), (0, .ref b)] dL_law_945 rfl (nI_add i 5) (by decide) rfl ?_
  refine bl_goto hC 18 dL_law_948 (by decide) ?_
  exact ih S' M' hRn
set_option maxRecDepth 100000 in
set_option maxHeartbeats 4000000 in
theorem law_case_13 {Γ : bd_G} {b L : Nat} {xs : Nat → Int32} {ε μ : bd_E} {R : bd_T → bd_T → Prop} (hC : bl_C Γ b L xs ε) (hy : bd_y μ = bd_y ε) (hR : bl_Rel R) {i : Nat} (hi5 : i + 5 ≤ L) (hL : L ≤ 2560) {S M : bd_T} (hRS : R S M) (ih : ∀ (S M : bd_T), R S M → bd_U Γ 4 71 23203 (cX ε S ++ cM μ M) 18 [(3, .int (nI (i + 5))), (2, .ref (bd_a μ 0)), (1, .ref (bd_a ε 0)), (0, .ref b)] []) : bd_U Γ 4 71 23203 (cX ε S ++ cM μ M) 622 [(3, .int (nI i)), (2, .ref (bd_a μ 0)), (1, .ref (bd_a ε 0)), (0, .ref b)] [] := by
  refine bl_aload_n hC 2 dL_law_622 rfl rfl ?_
  refine bl_aload_n hC 3 dL_law_623 rfl rfl ?_
  refine bl_iload_n hC 0 dL_law_624 rfl rfl ?_
  refine bl_iconst hC (1 : Int32) dL_law_625 rfl ?_
  refine bl_iadd hC dL_law_626 ?_
  rw [show nI i + (1 : Int32) = nI (i + 1) from nI_add i 1]
  refine bl_sld hC (vp_in_nI (show i + 1 < L by omega) (by omega)) dL_law_627 ?_
  rw [nI_clamp (by omega)]
  obtain ⟨r, S', M', hx, hm, hRn⟩ := hR.2.2.2.2.2.2.2.2.2.2.2.2.2.1 (xs (i + 1))  S M hRS
  refine bl_callX (ε' := ε) (cs := cX ε) (S := S) (S' := S') (r := r) (rm := ({ frames := 6, cells := 0, slots := 0, locals := 149 } : Room)) hC rfl [.int (xs (i + 1))] [] (c_X9_may (bd_l Γ) (bd_D Γ) ε (xs (i + 1)) S (by rw [hx]; rfl)) hx mw_448 mw_445 mw_446 mw_72 mw_447 (cX_o0 ε S) rfl by_X9_may ⟨rfl, rfl, Nat.le_of_ble_eq_true rfl, Nat.le_of_ble_eq_true rfl⟩ rfl rfl (Nat.le_of_ble_eq_true rfl) ⟨Nat.le_of_ble_eq_true rfl, Nat.le_of_ble_eq_true rfl⟩ dL_law_628 [.int r] rfl ?_
  refine bl_aload_n hC 1 dL_law_631 rfl rfl ?_
  refine bl_aload_n hC 3 dL_law_632 rfl rfl ?_
  refine bl_iload_n hC 0 dL_law_633 rfl rfl ?_
  refine bl_iconst hC (1 : Int32) dL_law_634 rfl ?_
  refine bl_iadd hC dL_law_635 ?_
  rw [show nI i + (1 : Int32) = nI (i + 1) from nI_add i 1]
  refine bl_sld hC (vp_in_nI (show i + 1 < L by omega) (by omega)) dL_law_636 ?_
  rw [nI_clamp (by omega)]
  refine bl_callM (ε' := μ) (cs := cM μ) (S := M) (S' := M') (r := r) (rm := ({ frames := 5, cells := 0, slots := 0, locals := 116 } : Room)) hC hy [.int (xs (i + 1))] [.int r] (c_X10_may (bd_l Γ) (bd_D Γ) μ (xs (i + 1)) M (by rw [hm]; rfl)) hm mw_750 mw_747 mw_748 mw_82 mw_749 (cM_o0 μ M) rfl by_X10_may ⟨rfl, rfl, Nat.le_of_ble_eq_true rfl, Nat.le_of_ble_eq_true rfl⟩ rfl rfl (Nat.le_of_ble_eq_true rfl) ⟨Nat.le_of_ble_eq_true rfl, Nat.le_of_ble_eq_true rfl⟩ dL_law_637 [.int r, .int r] rfl ?_
  refine bl_same hC 945 dL_law_640 (by decide) ?_
  refine bl_iinc hC 0 [(3, .int (nI (i + 5))), (2, .ref (bd_a μ 0)), (1, .ref (bd_a ε 0)), (0, .ref b)] dL_law_945 rfl (nI_add i 5) (by decide) rfl ?_
  refine bl_goto hC 18 dL_law_948 (by decide) ?_
  exact ih S' M' hRn
set_option maxRecDepth 100000 in
set_option maxHeartbeats 4000000 in
theorem law_case_14 {Γ : bd_G} {b L : Nat} {xs : Nat → Int32} {ε μ : bd_E} {R : bd_T → bd_T → Prop} (hC : bl_C Γ b L xs ε) (hy : bd_y μ = bd_y ε) (hR : bl_Rel R) {i : Nat} (hi5 : i + 5 ≤ L) (hL : L ≤ 2560) {S M : bd_T} (hRS : R S M) (ih : ∀ (S M : bd_T), R S M → bd_U Γ 4 71 23203 (cX ε S ++ cM μ M) 18 [(3, .int (nI (i + 5))), (2, .ref (bd_a μ 0)), (1, .ref (bd_a ε 0)), (0, .ref b)] []) : bd_U Γ 4 71 23203 (cX ε S ++ cM μ M) 645 [(3, .int (nI i)), (2, .ref (bd_a μ 0)), (1, .ref (bd_a ε 0)), (0, .ref b)] [] := by
  refine bl_aload_n hC 2 dL_law_645 rfl rfl ?_
  refine bl_aload_n hC 3 dL_law_646 rfl rfl ?_
  refine bl_iload_n hC 0 dL_law_647 rfl rfl ?_
  refine bl_iconst hC (1 : Int32) dL_law_648 rfl ?_
  refine bl_iadd hC dL_law_649 ?_
  rw [show nI i + (1 : Int32) = nI (i + 1) from nI_add i 1]
  refine bl_sld hC (vp_in_nI (show i + 1 < L by omega) (by omega)) dL_law_650 ?_
  rw [nI_clamp (by omega)]
  refine bl_aload_n hC 3 dL_law_651 rfl rfl ?_
  refine bl_iload_n hC 0 dL_law_652 rfl rfl ?_
  refine bl_iconst hC (2 : Int32) dL_law_653 rfl ?_
  refine bl_iadd hC dL_law_654 ?_
  rw [show nI i + (2 : Int32) = nI (i + 2) from nI_add i 2]
  refine bl_sld hC (vp_in_nI (show i + 2 < L by omega) (by omega)) dL_law_655 ?_
  rw [nI_clamp (by omega)]
  refine bl_aload_n hC 3 dL_law_656 rfl rfl ?_
  refine bl_iload_n hC 0 dL_law_657 rfl rfl ?_
  refine bl_iconst hC (3 : Int32) dL_law_658 rfl ?_
  refine bl_iadd hC dL_law_659 ?_
  rw [show nI i + (3 : Int32) = nI (i + 3) from nI_add i 3]
  refine bl_sld hC (vp_in_nI (show i + 3 < L by omega) (by omega)) dL_law_660 ?_
  rw [nI_clamp (by omega)]
  obtain ⟨r, S', M', hx, hm, hRn⟩ := hR.2.2.2.2.2.2.2.2.2.2.2.2.2.2.1 (xs (i + 1)) (xs (i + 2)) (xs (i + 3))  S M hRS
  refine bl_callX (ε' := ε) (cs := cX ε) (S := S) (S' := S') (r := r) (rm := ({ frames := 6, cells := 0, slots := 0, locals := 149 } : Room)) hC rfl [.int (xs (i + 1)), .int (xs (i + 2)), .int (xs (i + 3))] [] (c_X9_run (bd_l Γ) (bd_D Γ) ε (xs (i + 1)) (xs (i + 2)) (xs (i + 3)) S (by rw [hx]; rfl)) hx mw_455 mw_452 mw_453 mw_72 mw_454 (cX_o0 ε S) rfl by_X9_run ⟨rfl, rfl, Nat.le_of_ble_eq_true rfl, Nat.le_of_ble_eq_true rfl⟩ rfl rfl (Nat.le_of_ble_eq_true rfl) ⟨Nat.le_of_ble_eq_true rfl, Nat.le_of_ble_eq_true rfl⟩ dL_law_661 [.int r] rfl ?_
  refine bl_aload_n hC 1 dL_law_664 rfl rfl ?_
  refine bl_aload_n hC 3 dL_law_665 rfl rfl ?_
  refine bl_iload_n hC 0 dL_law_666 rfl rfl ?_
  refine bl_iconst hC (1 : Int32) dL_law_667 rfl ?_
  refine bl_iadd hC dL_law_668 ?_
  rw [show nI i + (1 : Int32) = nI (i + 1) from nI_add i 1]
  refine bl_sld hC (vp_in_nI (show i + 1 < L by omega) (by omega)) dL_law_669 ?_
  rw [nI_clamp (by omega)]
  refine bl_aload_n hC 3 dL_law_670 rfl rfl ?_
  refine bl_iload_n hC 0 dL_law_671 rfl rfl ?_
  refine bl_iconst hC (2 : Int32) dL_law_672 rfl ?_
  refine bl_iadd hC dL_law_673 ?_
  rw [show nI i + (2 : Int32) = nI (i + 2) from nI_add i 2]
  refine bl_sld hC (vp_in_nI (show i + 2 < L by omega) (by omega)) dL_law_674 ?_
  rw [nI_clamp (by omega)]
  refine bl_aload_n hC 3 dL_law_675 rfl rfl ?_
  refine bl_iload_n hC 0 dL_law_676 rfl rfl ?_
  refine bl_iconst hC (3 : Int32) dL_law_677 rfl ?_
  refine bl_iadd hC dL_law_678 ?_
  rw [show nI i + (3 : Int32) = nI (i + 3) from nI_add i 3]
  refine bl_sld hC (vp_in_nI (show i + 3 < L by omega) (by omega)) dL_law_679 ?_
  rw [nI_clamp (by omega)]
  refine bl_callM (ε' := μ) (cs := cM μ) (S := M) (S' := M') (r := r) (rm := ({ frames := 5, cells := 0, slots := 0, locals := 116 } : Room)) hC hy [.int (xs (i + 1)), .int (xs (i + 2)), .int (xs (i + 3))] [.int r] (c_X10_run (bd_l Γ) (bd_D Γ) μ (xs (i + 1)) (xs (i + 2)) (xs (i + 3)) M (by rw [hm]; rfl)) hm mw_760 mw_757 mw_758 mw_82 mw_759 (cM_o0 μ M) rfl by_X10_run ⟨rfl, rfl, Nat.le_of_ble_eq_true rfl, Nat.le_of_ble_eq_true rfl⟩ rfl rfl (Nat.le_of_ble_eq_true rfl) ⟨Nat.le_of_ble_eq_true rfl, Nat.le_of_ble_eq_true rfl⟩ dL_law_680 [.int r, .int r] rfl ?_
  refine bl_same hC 945 dL_law_683 (by decide) ?_
  refine bl_iinc hC 0 [(3, .int (nI (i + 5))), (2, .ref (bd_a μ 0)), (1, .ref (bd_a ε 0)), (0, .ref b)] dL_law_945 rfl (nI_add i 5) (by decide) rfl ?_
  refine bl_goto hC 18 dL_law_948 (by decide) ?_
  exact ih S' M' hRn
set_option maxRecDepth 100000 in
set_option maxHeartbeats 4000000 in
theorem law_case_15 {Γ : bd_G} {b L : Nat} {xs : Nat → Int32} {ε μ : bd_E} {R : bd_T → bd_T → Prop} (hC : bl_C Γ b L xs ε) (hy : bd_y μ = bd_y ε) (hR : bl_Rel R) {i : Nat} (hi5 : i + 5 ≤ L) (hL : L ≤ 2560) {S M : bd_T} (hRS : R S M) (ih : ∀ (S M : bd_T), R S M → bd_U Γ 4 71 23203 (cX ε S ++ cM μ M) 18 [(3, .int (nI (i + 5))), (2, .ref (bd_a μ 0)), (1, .ref (bd_a ε 0)), (0, .ref b)] []) : bd_U Γ 4 71 23203 (cX ε S ++ cM μ M) 688 [(3, .int (nI i)), (2, .ref (bd_a μ 0)), (1, .ref (bd_a ε 0)), (0, .ref b)] [] := by
  refine bl_aload_n hC 2 dL_law_688 rfl rfl ?_
  refine bl_aload_n hC 3 dL_law_689 rfl rfl ?_
  refine bl_iload_n hC 0 dL_law_690 rfl rfl ?_
  refine bl_iconst hC (1 : Int32) dL_law_691 rfl ?_
  refine bl_iadd hC dL_law_692 ?_
  rw [show nI i + (1 : Int32) = nI (i + 1) from nI_add i 1]
  refine bl_sld hC (vp_in_nI (show i + 1 < L by omega) (by omega)) dL_law_693 ?_
  rw [nI_clamp (by omega)]
  refine bl_aload_n hC 3 dL_law_694 rfl rfl ?_
  refine bl_iload_n hC 0 dL_law_695 rfl rfl ?_
  refine bl_iconst hC (2 : Int32) dL_law_696 rfl ?_
  refine bl_iadd hC dL_law_697 ?_
  rw [show nI i + (2 : Int32) = nI (i + 2) from nI_add i 2]
  refine bl_sld hC (vp_in_nI (show i + 2 < L by omega) (by omega)) dL_law_698 ?_
  rw [nI_clamp (by omega)]
  refine bl_aload_n hC 3 dL_law_699 rfl rfl ?_
  refine bl_iload_n hC 0 dL_law_700 rfl rfl ?_
  refine bl_iconst hC (3 : Int32) dL_law_701 rfl ?_
  refine bl_iadd hC dL_law_702 ?_
  rw [show nI i + (3 : Int32) = nI (i + 3) from nI_add i 3]
  refine bl_sld hC (vp_in_nI (show i + 3 < L by omega) (by omega)) dL_law_703 ?_
  rw [nI_clamp (by omega)]
  obtain ⟨r, S', M', hx, hm, hRn⟩ := hR.2.2.2.2.2.2.2.2.2.2.2.2.2.2.2.1 (xs (i + 1)) (xs (i + 2)) (xs (i + 3))  S M hRS
  refine bl_callX (ε' := ε) (cs := cX ε) (S := S) (S' := S') (r := r) (rm := ({ frames := 6, cells := 0, slots := 0, locals := 149 } : Room)) hC rfl [.int (xs (i + 1)), .int (xs (i + 2)), .int (xs (i + 3))] [] (c_X9_chance (bd_l Γ) (bd_D Γ) ε (xs (i + 1)) (xs (i + 2)) (xs (i + 3)) S (by rw [hx]; rfl)) hx mw_465 mw_462 mw_463 mw_72 mw_464 (cX_o0 ε S) rfl by_X9_chance ⟨rfl, rfl, Nat.le_of_ble_eq_true rfl, Nat.le_of_ble_eq_true rfl⟩ rfl rfl (Nat.le_of_ble_eq_true rfl) ⟨Nat.le_of_ble_eq_true rfl, Nat.le_of_ble_eq_true rfl⟩ dL_law_704 [.long r] rfl ?_
  refine bl_aload_n hC 1 dL_law_707 rfl rfl ?_
  refine bl_aload_n hC 3 dL_law_708 rfl rfl ?_
  refine bl_iload_n hC 0 dL_law_709 rfl rfl ?_
  refine bl_iconst hC (1 : Int32) dL_law_710 rfl ?_
  refine bl_iadd hC dL_law_711 ?_
  rw [show nI i + (1 : Int32) = nI (i + 1) from nI_add i 1]
  refine bl_sld hC (vp_in_nI (show i + 1 < L by omega) (by omega)) dL_law_712 ?_
  rw [nI_clamp (by omega)]
  refine bl_aload_n hC 3 dL_law_713 rfl rfl ?_
  refine bl_iload_n hC 0 dL_law_714 rfl rfl ?_
  refine bl_iconst hC (2 : Int32) dL_law_715 rfl ?_
  refine bl_iadd hC dL_law_716 ?_
  rw [show nI i + (2 : Int32) = nI (i + 2) from nI_add i 2]
  refine bl_sld hC (vp_in_nI (show i + 2 < L by omega) (by omega)) dL_law_717 ?_
  rw [nI_clamp (by omega)]
  refine bl_aload_n hC 3 dL_law_718 rfl rfl ?_
  refine bl_iload_n hC 0 dL_law_719 rfl rfl ?_
  refine bl_iconst hC (3 : Int32) dL_law_720 rfl ?_
  refine bl_iadd hC dL_law_721 ?_
  rw [show nI i + (3 : Int32) = nI (i + 3) from nI_add i 3]
  refine bl_sld hC (vp_in_nI (show i + 3 < L by omega) (by omega)) dL_law_722 ?_
  rw [nI_clamp (by omega)]
  refine bl_callM (ε' := μ) (cs := cM μ) (S := M) (S' := M') (r := r) (rm := ({ frames := 4, cells := 0, slots := 0, locals := 94 } : Room)) hC hy [.int (xs (i + 1)), .int (xs (i + 2)), .int (xs (i + 3))] [.long r] (c_X10_chance (bd_l Γ) (bd_D Γ) μ (xs (i + 1)) (xs (i + 2)) (xs (i + 3)) M (by rw [hm]; rfl)) hm mw_764 mw_761 mw_762 mw_82 mw_763 (cM_o0 μ M) rfl by_X10_chance ⟨rfl, rfl, Nat.le_of_ble_eq_true rfl, Nat.le_of_ble_eq_true rfl⟩ rfl rfl (Nat.le_of_ble_eq_true rfl) ⟨Nat.le_of_ble_eq_true rfl, Nat.le_of_ble_eq_true rfl⟩ dL_law_723 [.long r, .long r] rfl ?_
  refine bl_sameL hC 945 dL_law_726 dL_law_727 (by decide) ?_
  refine bl_iinc hC 0 [(3, .int (nI (i + 5))), (2, .ref (bd_a μ 0)), (1, .ref (bd_a ε 0)), (0, .ref b)] dL_law_945 rfl (nI_add i 5) (by decide) rfl ?_
  refine bl_goto hC 18 dL_law_948 (by decide) ?_
  exact ih S' M' hRn
set_option maxRecDepth 100000 in
set_option maxHeartbeats 4000000 in
theorem law_case_16 {Γ : bd_G} {b L : Nat} {xs : Nat → Int32} {ε μ : bd_E} {R : bd_T → bd_T → Prop} (hC : bl_C Γ b L xs ε) (hy : bd_y μ = bd_y ε) (hR : bl_Rel R) {i : Nat} (hi5 : i + 5 ≤ L) (hL : L ≤ 2560) {S M : bd_T} (hRS : R S M) (ih : ∀ (S M : bd_T), R S M → bd_U Γ 4 71 23203 (cX ε S ++ cM μ M) 18 [(3, .int (nI (i + 5))), (2, .ref (bd_a μ 0)), (1, .ref (bd_a ε 0)), (0, .ref b)] []) : bd_U Γ 4 71 23203 (cX ε S ++ cM μ M) 732 [(3, .int (nI i)), (2, .ref (bd_a μ 0)), (1, .ref (bd_a ε 0)), (0, .ref b)] [] := by
  refine bl_aload_n hC 2 dL_law_732 rfl rfl ?_
  refine bl_aload_n hC 3 dL_law_733 rfl rfl ?_
  refine bl_iload_n hC 0 dL_law_734 rfl rfl ?_
  refine bl_iconst hC (1 : Int32) dL_law_735 rfl ?_
  refine bl_iadd hC dL_law_736 ?_
  rw [show nI i + (1 : Int32) = nI (i + 1) from nI_add i 1]
  refine bl_sld hC (vp_in_nI (show i + 1 < L by omega) (by omega)) dL_law_737 ?_
  rw [nI_clamp (by omega)]
  obtain ⟨r, S', M', hx, hm, hRn⟩ := hR.2.2.2.2.2.2.2.2.2.2.2.2.2.2.2.2.1 (xs (i + 1))  S M hRS
  refine bl_callX (ε' := ε) (cs := cX ε) (S := S) (S' := S') (r := r) (rm := ({ frames := 2, cells := 0, slots := 0, locals := 43 } : Room)) hC rfl [.int (xs (i + 1))] [] (c_X9_put (bd_l Γ) (bd_D Γ) ε (xs (i + 1)) S (by rw [hx]; rfl)) hx mw_472 mw_469 mw_470 mw_72 mw_471 (cX_o0 ε S) rfl by_X9_put ⟨rfl, rfl, Nat.le_of_ble_eq_true rfl, Nat.le_of_ble_eq_true rfl⟩ rfl rfl (Nat.le_of_ble_eq_true rfl) ⟨Nat.le_of_ble_eq_true rfl, Nat.le_of_ble_eq_true rfl⟩ dL_law_738 [.int r] rfl ?_
  refine bl_aload_n hC 1 dL_law_741 rfl rfl ?_
  refine bl_aload_n hC 3 dL_law_742 rfl rfl ?_
  refine bl_iload_n hC 0 dL_law_743 rfl rfl ?_
  refine bl_iconst hC (1 : Int32) dL_law_744 rfl ?_
  refine bl_iadd hC dL_law_745 ?_
  rw [show nI i + (1 : Int32) = nI (i + 1) from nI_add i 1]
  refine bl_sld hC (vp_in_nI (show i + 1 < L by omega) (by omega)) dL_law_746 ?_
  rw [nI_clamp (by omega)]
  refine bl_callM (ε' := μ) (cs := cM μ) (S := M) (S' := M') (r := r) (rm := ({ frames := 1, cells := 0, slots := 0, locals := 22 } : Room)) hC hy [.int (xs (i + 1))] [.int r] (c_X10_put (bd_l Γ) (bd_D Γ) μ (xs (i + 1)) M (by rw [hm]; rfl)) hm mw_771 mw_768 mw_769 mw_82 mw_770 (cM_o0 μ M) rfl by_X10_put ⟨rfl, rfl, Nat.le_of_ble_eq_true rfl, Nat.le_of_ble_eq_true rfl⟩ rfl rfl (Nat.le_of_ble_eq_true rfl) ⟨Nat.le_of_ble_eq_true rfl, Nat.le_of_ble_eq_true rfl⟩ dL_law_747 [.int r, .int r] rfl ?_
  refine bl_same hC 945 dL_law_750 (by decide) ?_
  refine bl_iinc hC 0 [(3, .int (nI (i + 5))), (2, .ref (bd_a μ 0)), (1, .ref (bd_a ε 0)), (0, .ref b)] dL_law_945 rfl (nI_add i 5) (by decide) rfl ?_
  refine bl_goto hC 18 dL_law_948 (by decide) ?_
  exact ih S' M' hRn
set_option maxRecDepth 100000 in
set_option maxHeartbeats 4000000 in
theorem law_case_17 {Γ : bd_G} {b L : Nat} {xs : Nat → Int32} {ε μ : bd_E} {R : bd_T → bd_T → Prop} (hC : bl_C Γ b L xs ε) (hy : bd_y μ = bd_y ε) (hR : bl_Rel R) {i : Nat} (hi5 : i + 5 ≤ L) (hL : L ≤ 2560) {S M : bd_T} (hRS : R S M) (ih : ∀ (S M : bd_T), R S M → bd_U Γ 4 71 23203 (cX ε S ++ cM μ M) 18 [(3, .int (nI (i + 5))), (2, .ref (bd_a μ 0)), (1, .ref (bd_a ε 0)), (0, .ref b)] []) : bd_U Γ 4 71 23203 (cX ε S ++ cM μ M) 755 [(3, .int (nI i)), (2, .ref (bd_a μ 0)), (1, .ref (bd_a ε 0)), (0, .ref b)] [] := by
  refine bl_aload_n hC 2 dL_law_755 rfl rfl ?_
  obtain ⟨r, S', M', hx, hm, hRn⟩ := hR.2.2.2.2.2.2.2.2.2.2.2.2.2.2.2.2.2.1   S M hRS
  refine bl_callX (ε' := ε) (cs := cX ε) (S := S) (S' := S') (r := r) (rm := ({ frames := 6, cells := 0, slots := 0, locals := 149 } : Room)) hC rfl [] [] (c_X9_judge (bd_l Γ) (bd_D Γ) ε S (by rw [hx]; rfl)) hx mw_476 mw_473 mw_474 mw_72 mw_475 (cX_o0 ε S) rfl by_X9_judge ⟨rfl, rfl, Nat.le_of_ble_eq_true rfl, Nat.le_of_ble_eq_true rfl⟩ rfl rfl (Nat.le_of_ble_eq_true rfl) ⟨Nat.le_of_ble_eq_true rfl, Nat.le_of_ble_eq_true rfl⟩ dL_law_756 [.int r] rfl ?_
  refine bl_aload_n hC 1 dL_law_759 rfl rfl ?_
  refine bl_callM (ε' := μ) (cs := cM μ) (S := M) (S' := M') (r := r) (rm := ({ frames := 4, cells := 0, slots := 0, locals := 94 } : Room)) hC hy [] [.int r] (c_X10_judge (bd_l Γ) (bd_D Γ) μ M (by rw [hm]; rfl)) hm mw_775 mw_772 mw_773 mw_82 mw_774 (cM_o0 μ M) rfl by_X10_judge ⟨rfl, rfl, Nat.le_of_ble_eq_true rfl, Nat.le_of_ble_eq_true rfl⟩ rfl rfl (Nat.le_of_ble_eq_true rfl) ⟨Nat.le_of_ble_eq_true rfl, Nat.le_of_ble_eq_true rfl⟩ dL_law_760 [.int r, .int r] rfl ?_
  refine bl_same hC 945 dL_law_763 (by decide) ?_
  refine bl_iinc hC 0 [(3, .int (nI (i + 5))), (2, .ref (bd_a μ 0)), (1, .ref (bd_a ε 0)), (0, .ref b)] dL_law_945 rfl (nI_add i 5) (by decide) rfl ?_
  refine bl_goto hC 18 dL_law_948 (by decide) ?_
  exact ih S' M' hRn
set_option maxRecDepth 100000 in
set_option maxHeartbeats 4000000 in
theorem law_case_18 {Γ : bd_G} {b L : Nat} {xs : Nat → Int32} {ε μ : bd_E} {R : bd_T → bd_T → Prop} (hC : bl_C Γ b L xs ε) (hy : bd_y μ = bd_y ε) (hR : bl_Rel R) {i : Nat} (hi5 : i + 5 ≤ L) (hL : L ≤ 2560) {S M : bd_T} (hRS : R S M) (ih : ∀ (S M : bd_T), R S M → bd_U Γ 4 71 23203 (cX ε S ++ cM μ M) 18 [(3, .int (nI (i + 5))), (2, .ref (bd_a μ 0)), (1, .ref (bd_a ε 0)), (0, .ref b)] []) : bd_U Γ 4 71 23203 (cX ε S ++ cM μ M) 768 [(3, .int (nI i)), (2, .ref (bd_a μ 0)), (1, .ref (bd_a ε 0)), (0, .ref b)] [] := by
  refine bl_aload_n hC 2 dL_law_768 rfl rfl ?_
  obtain ⟨r, S', M', hx, hm, hRn⟩ := hR.2.2.2.2.2.2.2.2.2.2.2.2.2.2.2.2.2.2.1   S M hRS
  refine bl_callX (ε' := ε) (cs := cX ε) (S := S) (S' := S') (r := r) (rm := ({ frames := 6, cells := 0, slots := 0, locals := 149 } : Room)) hC rfl [] [] (c_X9_doubts (bd_l Γ) (bd_D Γ) ε S (by rw [hx]; rfl)) hx mw_486 mw_483 mw_484 mw_72 mw_485 (cX_o0 ε S) rfl by_X9_doubts ⟨rfl, rfl, Nat.le_of_ble_eq_true rfl, Nat.le_of_ble_eq_true rfl⟩ rfl rfl (Nat.le_of_ble_eq_true rfl) ⟨Nat.le_of_ble_eq_true rfl, Nat.le_of_ble_eq_true rfl⟩ dL_law_769 [.int r] rfl ?_
  refine bl_aload_n hC 1 dL_law_772 rfl rfl ?_
  refine bl_callM (ε' := μ) (cs := cM μ) (S := M) (S' := M') (r := r) (rm := ({ frames := 4, cells := 0, slots := 0, locals := 94 } : Room)) hC hy [] [.int r] (c_X10_doubts (bd_l Γ) (bd_D Γ) μ M (by rw [hm]; rfl)) hm mw_782 mw_779 mw_780 mw_82 mw_781 (cM_o0 μ M) rfl by_X10_doubts ⟨rfl, rfl, Nat.le_of_ble_eq_true rfl, Nat.le_of_ble_eq_true rfl⟩ rfl rfl (Nat.le_of_ble_eq_true rfl) ⟨Nat.le_of_ble_eq_true rfl, Nat.le_of_ble_eq_true rfl⟩ dL_law_773 [.int r, .int r] rfl ?_
  refine bl_same hC 945 dL_law_776 (by decide) ?_
  refine bl_iinc hC 0 [(3, .int (nI (i + 5))), (2, .ref (bd_a μ 0)), (1, .ref (bd_a ε 0)), (0, .ref b)] dL_law_945 rfl (nI_add i 5) (by decide) rfl ?_
  refine bl_goto hC 18 dL_law_948 (by decide) ?_
  exact ih S' M' hRn
set_option maxRecDepth 100000 in
set_option maxHeartbeats 4000000 in
theorem law_case_19 {Γ : bd_G} {b L : Nat} {xs : Nat → Int32} {ε μ : bd_E} {R : bd_T → bd_T → Prop} (hC : bl_C Γ b L xs ε) (hy : bd_y μ = bd_y ε) (hR : bl_Rel R) {i : Nat} (hi5 : i + 5 ≤ L) (hL : L ≤ 2560) {S M : bd_T} (hRS : R S M) (ih : ∀ (S M : bd_T), R S M → bd_U Γ 4 71 23203 (cX ε S ++ cM μ M) 18 [(3, .int (nI (i + 5))), (2, .ref (bd_a μ 0)), (1, .ref (bd_a ε 0)), (0, .ref b)] []) : bd_U Γ 4 71 23203 (cX ε S ++ cM μ M) 781 [(3, .int (nI i)), (2, .ref (bd_a μ 0)), (1, .ref (bd_a ε 0)), (0, .ref b)] [] := by
  refine bl_aload_n hC 2 dL_law_781 rfl rfl ?_
  obtain ⟨r, S', M', hx, hm, hRn⟩ := hR.2.2.2.2.2.2.2.2.2.2.2.2.2.2.2.2.2.2.2.1   S M hRS
  refine bl_callX (ε' := ε) (cs := cX ε) (S := S) (S' := S') (r := r) (rm := ({ frames := 6, cells := 0, slots := 0, locals := 149 } : Room)) hC rfl [] [] (c_X9_opened (bd_l Γ) (bd_D Γ) ε S (by rw [hx]; rfl)) hx mw_501 mw_498 mw_499 mw_72 mw_500 (cX_o0 ε S) rfl by_X9_opened ⟨rfl, rfl, Nat.le_of_ble_eq_true rfl, Nat.le_of_ble_eq_true rfl⟩ rfl rfl (Nat.le_of_ble_eq_true rfl) ⟨Nat.le_of_ble_eq_true rfl, Nat.le_of_ble_eq_true rfl⟩ dL_law_782 [.int r] rfl ?_
  refine bl_aload_n hC 1 dL_law_785 rfl rfl ?_
  refine bl_callM (ε' := μ) (cs := cM μ) (S := M) (S' := M') (r := r) (rm := ({ frames := 4, cells := 0, slots := 0, locals := 94 } : Room)) hC hy [] [.int r] (c_X10_opened (bd_l Γ) (bd_D Γ) μ M (by rw [hm]; rfl)) hm mw_789 mw_786 mw_787 mw_82 mw_788 (cM_o0 μ M) rfl by_X10_opened ⟨rfl, rfl, Nat.le_of_ble_eq_true rfl, Nat.le_of_ble_eq_true rfl⟩ rfl rfl (Nat.le_of_ble_eq_true rfl) ⟨Nat.le_of_ble_eq_true rfl, Nat.le_of_ble_eq_true rfl⟩ dL_law_786 [.int r, .int r] rfl ?_
  refine bl_same hC 945 dL_law_789 (by decide) ?_
  refine bl_iinc hC 0 [(3, .int (nI (i + 5))), (2, .ref (bd_a μ 0)), (1, .ref (bd_a ε 0)), (0, .ref b)] dL_law_945 rfl (nI_add i 5) (by decide) rfl ?_
  refine bl_goto hC 18 dL_law_948 (by decide) ?_
  exact ih S' M' hRn
set_option maxRecDepth 100000 in
set_option maxHeartbeats 4000000 in
theorem law_case_20 {Γ : bd_G} {b L : Nat} {xs : Nat → Int32} {ε μ : bd_E} {R : bd_T → bd_T → Prop} (hC : bl_C Γ b L xs ε) (hy : bd_y μ = bd_y ε) (hR : bl_Rel R) {i : Nat} (hi5 : i + 5 ≤ L) (hL : L ≤ 2560) {S M : bd_T} (hRS : R S M) (ih : ∀ (S M : bd_T), R S M → bd_U Γ 4 71 23203 (cX ε S ++ cM μ M) 18 [(3, .int (nI (i + 5))), (2, .ref (bd_a μ 0)), (1, .ref (bd_a ε 0)), (0, .ref b)] []) : bd_U Γ 4 71 23203 (cX ε S ++ cM μ M) 794 [(3, .int (nI i)), (2, .ref (bd_a μ 0)), (1, .ref (bd_a ε 0)), (0, .ref b)] [] := by
  refine bl_aload_n hC 2 dL_law_794 rfl rfl ?_
  obtain ⟨r, S', M', hx, hm, hRn⟩ := hR.2.2.2.2.2.2.2.2.2.2.2.2.2.2.2.2.2.2.2.2.1   S M hRS
  refine bl_callX (ε' := ε) (cs := cX ε) (S := S) (S' := S') (r := r) (rm := ({ frames := 6, cells := 0, slots := 0, locals := 149 } : Room)) hC rfl [] [] (c_X9_hangs (bd_l Γ) (bd_D Γ) ε S (by rw [hx]; rfl)) hx mw_505 mw_502 mw_503 mw_72 mw_504 (cX_o0 ε S) rfl by_X9_hangs ⟨rfl, rfl, Nat.le_of_ble_eq_true rfl, Nat.le_of_ble_eq_true rfl⟩ rfl rfl (Nat.le_of_ble_eq_true rfl) ⟨Nat.le_of_ble_eq_true rfl, Nat.le_of_ble_eq_true rfl⟩ dL_law_795 [.int r] rfl ?_
  refine bl_aload_n hC 1 dL_law_798 rfl rfl ?_
  refine bl_callM (ε' := μ) (cs := cM μ) (S := M) (S' := M') (r := r) (rm := ({ frames := 4, cells := 0, slots := 0, locals := 94 } : Room)) hC hy [] [.int r] (c_X10_hangs (bd_l Γ) (bd_D Γ) μ M (by rw [hm]; rfl)) hm mw_793 mw_790 mw_791 mw_82 mw_792 (cM_o0 μ M) rfl by_X10_hangs ⟨rfl, rfl, Nat.le_of_ble_eq_true rfl, Nat.le_of_ble_eq_true rfl⟩ rfl rfl (Nat.le_of_ble_eq_true rfl) ⟨Nat.le_of_ble_eq_true rfl, Nat.le_of_ble_eq_true rfl⟩ dL_law_799 [.int r, .int r] rfl ?_
  refine bl_same hC 945 dL_law_802 (by decide) ?_
  refine bl_iinc hC 0 [(3, .int (nI (i + 5))), (2, .ref (bd_a μ 0)), (1, .ref (bd_a ε 0)), (0, .ref b)] dL_law_945 rfl (nI_add i 5) (by decide) rfl ?_
  refine bl_goto hC 18 dL_law_948 (by decide) ?_
  exact ih S' M' hRn
set_option maxRecDepth 100000 in
set_option maxHeartbeats 4000000 in
theorem law_case_21 {Γ : bd_G} {b L : Nat} {xs : Nat → Int32} {ε μ : bd_E} {R : bd_T → bd_T → Prop} (hC : bl_C Γ b L xs ε) (hy : bd_y μ = bd_y ε) (hR : bl_Rel R) {i : Nat} (hi5 : i + 5 ≤ L) (hL : L ≤ 2560) {S M : bd_T} (hRS : R S M) (ih : ∀ (S M : bd_T), R S M → bd_U Γ 4 71 23203 (cX ε S ++ cM μ M) 18 [(3, .int (nI (i + 5))), (2, .ref (bd_a μ 0)), (1, .ref (bd_a ε 0)), (0, .ref b)] []) : bd_U Γ 4 71 23203 (cX ε S ++ cM μ M) 807 [(3, .int (nI i)), (2, .ref (bd_a μ 0)), (1, .ref (bd_a ε 0)), (0, .ref b)] [] := by
  refine bl_aload_n hC 2 dL_law_807 rfl rfl ?_
  refine bl_aload_n hC 3 dL_law_808 rfl rfl ?_
  refine bl_iload_n hC 0 dL_law_809 rfl rfl ?_
  refine bl_iconst hC (1 : Int32) dL_law_810 rfl ?_
  refine bl_iadd hC dL_law_811 ?_
  rw [show nI i + (1 : Int32) = nI (i + 1) from nI_add i 1]
  refine bl_sld hC (vp_in_nI (show i + 1 < L by omega) (by omega)) dL_law_812 ?_
  rw [nI_clamp (by omega)]
  refine bl_aload_n hC 3 dL_law_813 rfl rfl ?_
  refine bl_iload_n hC 0 dL_law_814 rfl rfl ?_
  refine bl_iconst hC (2 : Int32) dL_law_815 rfl ?_
  refine bl_iadd hC dL_law_816 ?_
  rw [show nI i + (2 : Int32) = nI (i + 2) from nI_add i 2]
  refine bl_sld hC (vp_in_nI (show i + 2 < L by omega) (by omega)) dL_law_817 ?_
  rw [nI_clamp (by omega)]
  obtain ⟨r, S', M', hx, hm, hRn⟩ := hR.2.2.2.2.2.2.2.2.2.2.2.2.2.2.2.2.2.2.2.2.2.1 (xs (i + 1)) (xs (i + 2))  S M hRS
  refine bl_callX (ε' := ε) (cs := cX ε) (S := S) (S' := S') (r := r) (rm := ({ frames := 6, cells := 0, slots := 0, locals := 150 } : Room)) hC rfl [.int (xs (i + 1)), .int (xs (i + 2))] [] (c_X9_ahead (bd_l Γ) (bd_D Γ) ε (xs (i + 1)) (xs (i + 2)) S (by rw [hx]; rfl)) hx mw_509 mw_506 mw_507 mw_72 mw_508 (cX_o0 ε S) rfl by_X9_ahead ⟨rfl, rfl, Nat.le_of_ble_eq_true rfl, Nat.le_of_ble_eq_true rfl⟩ rfl rfl (Nat.le_of_ble_eq_true rfl) ⟨Nat.le_of_ble_eq_true rfl, Nat.le_of_ble_eq_true rfl⟩ dL_law_818 [.int r] rfl ?_
  refine bl_aload_n hC 1 dL_law_821 rfl rfl ?_
  refine bl_aload_n hC 3 dL_law_822 rfl rfl ?_
  refine bl_iload_n hC 0 dL_law_823 rfl rfl ?_
  refine bl_iconst hC (1 : Int32) dL_law_824 rfl ?_
  refine bl_iadd hC dL_law_825 ?_
  rw [show nI i + (1 : Int32) = nI (i + 1) from nI_add i 1]
  refine bl_sld hC (vp_in_nI (show i + 1 < L by omega) (by omega)) dL_law_826 ?_
  rw [nI_clamp (by omega)]
  refine bl_aload_n hC 3 dL_law_827 rfl rfl ?_
  refine bl_iload_n hC 0 dL_law_828 rfl rfl ?_
  refine bl_iconst hC (2 : Int32) dL_law_829 rfl ?_
  refine bl_iadd hC dL_law_830 ?_
  rw [show nI i + (2 : Int32) = nI (i + 2) from nI_add i 2]
  refine bl_sld hC (vp_in_nI (show i + 2 < L by omega) (by omega)) dL_law_831 ?_
  rw [nI_clamp (by omega)]
  refine bl_callM (ε' := μ) (cs := cM μ) (S := M) (S' := M') (r := r) (rm := ({ frames := 4, cells := 0, slots := 0, locals := 94 } : Room)) hC hy [.int (xs (i + 1)), .int (xs (i + 2))] [.int r] (c_X10_ahead (bd_l Γ) (bd_D Γ) μ (xs (i + 1)) (xs (i + 2)) M (by rw [hm]; rfl)) hm mw_797 mw_794 mw_795 mw_82 mw_796 (cM_o0 μ M) rfl by_X10_ahead ⟨rfl, rfl, Nat.le_of_ble_eq_true rfl, Nat.le_of_ble_eq_true rfl⟩ rfl rfl (Nat.le_of_ble_eq_true rfl) ⟨Nat.le_of_ble_eq_true rfl, Nat.le_of_ble_eq_true rfl⟩ dL_law_832 [.int r, .int r] rfl ?_
  refine bl_same hC 945 dL_law_835 (by decide) ?_
  refine bl_iinc hC 0 [(3, .int (nI (i + 5))), (2, .ref (bd_a μ 0)), (1, .ref (bd_a ε 0)), (0, .ref b)] dL_law_945 rfl (nI_add i 5) (by decide) rfl ?_
  refine bl_goto hC 18 dL_law_948 (by decide) ?_
  exact ih S' M' hRn
set_option maxRecDepth 100000 in
set_option maxHeartbeats 4000000 in
theorem law_case_22 {Γ : bd_G} {b L : Nat} {xs : Nat → Int32} {ε μ : bd_E} {R : bd_T → bd_T → Prop} (hC : bl_C Γ b L xs ε) (hy : bd_y μ = bd_y ε) (hR : bl_Rel R) {i : Nat} (hi5 : i + 5 ≤ L) (hL : L ≤ 2560) {S M : bd_T} (hRS : R S M) (ih : ∀ (S M : bd_T), R S M → bd_U Γ 4 71 23203 (cX ε S ++ cM μ M) 18 [(3, .int (nI (i + 5))), (2, .ref (bd_a μ 0)), (1, .ref (bd_a ε 0)), (0, .ref b)] []) : bd_U Γ 4 71 23203 (cX ε S ++ cM μ M) 840 [(3, .int (nI i)), (2, .ref (bd_a μ 0)), (1, .ref (bd_a ε 0)), (0, .ref b)] [] := by
  refine bl_aload_n hC 2 dL_law_840 rfl rfl ?_
  refine bl_aload_n hC 3 dL_law_841 rfl rfl ?_
  refine bl_iload_n hC 0 dL_law_842 rfl rfl ?_
  refine bl_iconst hC (1 : Int32) dL_law_843 rfl ?_
  refine bl_iadd hC dL_law_844 ?_
  rw [show nI i + (1 : Int32) = nI (i + 1) from nI_add i 1]
  refine bl_sld hC (vp_in_nI (show i + 1 < L by omega) (by omega)) dL_law_845 ?_
  rw [nI_clamp (by omega)]
  refine bl_aload_n hC 3 dL_law_846 rfl rfl ?_
  refine bl_iload_n hC 0 dL_law_847 rfl rfl ?_
  refine bl_iconst hC (2 : Int32) dL_law_848 rfl ?_
  refine bl_iadd hC dL_law_849 ?_
  rw [show nI i + (2 : Int32) = nI (i + 2) from nI_add i 2]
  refine bl_sld hC (vp_in_nI (show i + 2 < L by omega) (by omega)) dL_law_850 ?_
  rw [nI_clamp (by omega)]
  obtain ⟨r, S', M', hx, hm, hRn⟩ := hR.2.2.2.2.2.2.2.2.2.2.2.2.2.2.2.2.2.2.2.2.2.2.1 (xs (i + 1)) (xs (i + 2))  S M hRS
  refine bl_callX (ε' := ε) (cs := cX ε) (S := S) (S' := S') (r := r) (rm := ({ frames := 6, cells := 0, slots := 0, locals := 149 } : Room)) hC rfl [.int (xs (i + 1)), .int (xs (i + 2))] [] (c_X9_narrow (bd_l Γ) (bd_D Γ) ε (xs (i + 1)) (xs (i + 2)) S (by rw [hx]; rfl)) hx mw_523 mw_520 mw_521 mw_72 mw_522 (cX_o0 ε S) rfl by_X9_narrow ⟨rfl, rfl, Nat.le_of_ble_eq_true rfl, Nat.le_of_ble_eq_true rfl⟩ rfl rfl (Nat.le_of_ble_eq_true rfl) ⟨Nat.le_of_ble_eq_true rfl, Nat.le_of_ble_eq_true rfl⟩ dL_law_851 [.int r] rfl ?_
  refine bl_aload_n hC 1 dL_law_854 rfl rfl ?_
  refine bl_aload_n hC 3 dL_law_855 rfl rfl ?_
  refine bl_iload_n hC 0 dL_law_856 rfl rfl ?_
  refine bl_iconst hC (1 : Int32) dL_law_857 rfl ?_
  refine bl_iadd hC dL_law_858 ?_
  rw [show nI i + (1 : Int32) = nI (i + 1) from nI_add i 1]
  refine bl_sld hC (vp_in_nI (show i + 1 < L by omega) (by omega)) dL_law_859 ?_
  rw [nI_clamp (by omega)]
  refine bl_aload_n hC 3 dL_law_860 rfl rfl ?_
  refine bl_iload_n hC 0 dL_law_861 rfl rfl ?_
  refine bl_iconst hC (2 : Int32) dL_law_862 rfl ?_
  refine bl_iadd hC dL_law_863 ?_
  rw [show nI i + (2 : Int32) = nI (i + 2) from nI_add i 2]
  refine bl_sld hC (vp_in_nI (show i + 2 < L by omega) (by omega)) dL_law_864 ?_
  rw [nI_clamp (by omega)]
  refine bl_callM (ε' := μ) (cs := cM μ) (S := M) (S' := M') (r := r) (rm := ({ frames := 6, cells := 0, slots := 0, locals := 141 } : Room)) hC hy [.int (xs (i + 1)), .int (xs (i + 2))] [.int r] (c_X10_narrow (bd_l Γ) (bd_D Γ) μ (xs (i + 1)) (xs (i + 2)) M (by rw [hm]; rfl)) hm mw_801 mw_798 mw_799 mw_82 mw_800 (cM_o0 μ M) rfl by_X10_narrow ⟨rfl, rfl, Nat.le_of_ble_eq_true rfl, Nat.le_of_ble_eq_true rfl⟩ rfl rfl (Nat.le_of_ble_eq_true rfl) ⟨Nat.le_of_ble_eq_true rfl, Nat.le_of_ble_eq_true rfl⟩ dL_law_865 [.int r, .int r] rfl ?_
  refine bl_same hC 945 dL_law_868 (by decide) ?_
  refine bl_iinc hC 0 [(3, .int (nI (i + 5))), (2, .ref (bd_a μ 0)), (1, .ref (bd_a ε 0)), (0, .ref b)] dL_law_945 rfl (nI_add i 5) (by decide) rfl ?_
  refine bl_goto hC 18 dL_law_948 (by decide) ?_
  exact ih S' M' hRn
set_option maxRecDepth 100000 in
set_option maxHeartbeats 4000000 in
theorem law_case_23 {Γ : bd_G} {b L : Nat} {xs : Nat → Int32} {ε μ : bd_E} {R : bd_T → bd_T → Prop} (hC : bl_C Γ b L xs ε) (hy : bd_y μ = bd_y ε) (hR : bl_Rel R) {i : Nat} (hi5 : i + 5 ≤ L) (hL : L ≤ 2560) {S M : bd_T} (hRS : R S M) (ih : ∀ (S M : bd_T), R S M → bd_U Γ 4 71 23203 (cX ε S ++ cM μ M) 18 [(3, .int (nI (i + 5))), (2, .ref (bd_a μ 0)), (1, .ref (bd_a ε 0)), (0, .ref b)] []) : bd_U Γ 4 71 23203 (cX ε S ++ cM μ M) 873 [(3, .int (nI i)), (2, .ref (bd_a μ 0)), (1, .ref (bd_a ε 0)), (0, .ref b)] [] := by
  refine bl_aload_n hC 2 dL_law_873 rfl rfl ?_
  refine bl_aload_n hC 3 dL_law_874 rfl rfl ?_
  refine bl_iload_n hC 0 dL_law_875 rfl rfl ?_
  refine bl_iconst hC (1 : Int32) dL_law_876 rfl ?_
  refine bl_iadd hC dL_law_877 ?_
  rw [show nI i + (1 : Int32) = nI (i + 1) from nI_add i 1]
  refine bl_sld hC (vp_in_nI (show i + 1 < L by omega) (by omega)) dL_law_878 ?_
  rw [nI_clamp (by omega)]
  obtain ⟨r, S', M', hx, hm, hRn⟩ := hR.2.2.2.2.2.2.2.2.2.2.2.2.2.2.2.2.2.2.2.2.2.2.2.1 (xs (i + 1))  S M hRS
  refine bl_callX (ε' := ε) (cs := cX ε) (S := S) (S' := S') (r := r) (rm := ({ frames := 6, cells := 0, slots := 0, locals := 149 } : Room)) hC rfl [.int (xs (i + 1))] [] (c_X9_next (bd_l Γ) (bd_D Γ) ε (xs (i + 1)) S (by rw [hx]; rfl)) hx mw_531 mw_528 mw_529 mw_72 mw_530 (cX_o0 ε S) rfl by_X9_next ⟨rfl, rfl, Nat.le_of_ble_eq_true rfl, Nat.le_of_ble_eq_true rfl⟩ rfl rfl (Nat.le_of_ble_eq_true rfl) ⟨Nat.le_of_ble_eq_true rfl, Nat.le_of_ble_eq_true rfl⟩ dL_law_879 [.int r] rfl ?_
  refine bl_aload_n hC 1 dL_law_882 rfl rfl ?_
  refine bl_aload_n hC 3 dL_law_883 rfl rfl ?_
  refine bl_iload_n hC 0 dL_law_884 rfl rfl ?_
  refine bl_iconst hC (1 : Int32) dL_law_885 rfl ?_
  refine bl_iadd hC dL_law_886 ?_
  rw [show nI i + (1 : Int32) = nI (i + 1) from nI_add i 1]
  refine bl_sld hC (vp_in_nI (show i + 1 < L by omega) (by omega)) dL_law_887 ?_
  rw [nI_clamp (by omega)]
  refine bl_callM (ε' := μ) (cs := cM μ) (S := M) (S' := M') (r := r) (rm := ({ frames := 6, cells := 0, slots := 0, locals := 141 } : Room)) hC hy [.int (xs (i + 1))] [.int r] (c_X10_next (bd_l Γ) (bd_D Γ) μ (xs (i + 1)) M (by rw [hm]; rfl)) hm mw_808 mw_805 mw_806 mw_82 mw_807 (cM_o0 μ M) rfl by_X10_next ⟨rfl, rfl, Nat.le_of_ble_eq_true rfl, Nat.le_of_ble_eq_true rfl⟩ rfl rfl (Nat.le_of_ble_eq_true rfl) ⟨Nat.le_of_ble_eq_true rfl, Nat.le_of_ble_eq_true rfl⟩ dL_law_888 [.int r, .int r] rfl ?_
  refine bl_same hC 945 dL_law_891 (by decide) ?_
  refine bl_iinc hC 0 [(3, .int (nI (i + 5))), (2, .ref (bd_a μ 0)), (1, .ref (bd_a ε 0)), (0, .ref b)] dL_law_945 rfl (nI_add i 5) (by decide) rfl ?_
  refine bl_goto hC 18 dL_law_948 (by decide) ?_
  exact ih S' M' hRn
set_option maxRecDepth 100000 in
set_option maxHeartbeats 4000000 in
theorem law_case_24 {Γ : bd_G} {b L : Nat} {xs : Nat → Int32} {ε μ : bd_E} {R : bd_T → bd_T → Prop} (hC : bl_C Γ b L xs ε) (hy : bd_y μ = bd_y ε) (hR : bl_Rel R) {i : Nat} (hi5 : i + 5 ≤ L) (hL : L ≤ 2560) {S M : bd_T} (hRS : R S M) (ih : ∀ (S M : bd_T), R S M → bd_U Γ 4 71 23203 (cX ε S ++ cM μ M) 18 [(3, .int (nI (i + 5))), (2, .ref (bd_a μ 0)), (1, .ref (bd_a ε 0)), (0, .ref b)] []) : bd_U Γ 4 71 23203 (cX ε S ++ cM μ M) 896 [(3, .int (nI i)), (2, .ref (bd_a μ 0)), (1, .ref (bd_a ε 0)), (0, .ref b)] [] := by
  refine bl_aload_n hC 2 dL_law_896 rfl rfl ?_
  obtain ⟨r, S', M', hx, hm, hRn⟩ := hR.2.2.2.2.2.2.2.2.2.2.2.2.2.2.2.2.2.2.2.2.2.2.2.2.1   S M hRS
  refine bl_callX (ε' := ε) (cs := cX ε) (S := S) (S' := S') (r := r) (rm := ({ frames := 3, cells := 0, slots := 0, locals := 64 } : Room)) hC rfl [] [] (c_X9_image (bd_l Γ) (bd_D Γ) ε S (by rw [hx]; rfl)) hx mw_535 mw_532 mw_533 mw_72 mw_534 (cX_o0 ε S) rfl by_X9_image ⟨rfl, rfl, Nat.le_of_ble_eq_true rfl, Nat.le_of_ble_eq_true rfl⟩ rfl rfl (Nat.le_of_ble_eq_true rfl) ⟨Nat.le_of_ble_eq_true rfl, Nat.le_of_ble_eq_true rfl⟩ dL_law_897 [.int r] rfl ?_
  refine bl_aload_n hC 1 dL_law_900 rfl rfl ?_
  refine bl_callM (ε' := μ) (cs := cM μ) (S := M) (S' := M') (r := r) (rm := ({ frames := 2, cells := 0, slots := 0, locals := 42 } : Room)) hC hy [] [.int r] (c_X10_image (bd_l Γ) (bd_D Γ) μ M (by rw [hm]; rfl)) hm mw_812 mw_809 mw_810 mw_82 mw_811 (cM_o0 μ M) rfl by_X10_image ⟨rfl, rfl, Nat.le_of_ble_eq_true rfl, Nat.le_of_ble_eq_true rfl⟩ rfl rfl (Nat.le_of_ble_eq_true rfl) ⟨Nat.le_of_ble_eq_true rfl, Nat.le_of_ble_eq_true rfl⟩ dL_law_901 [.int r, .int r] rfl ?_
  refine bl_same hC 945 dL_law_904 (by decide) ?_
  refine bl_iinc hC 0 [(3, .int (nI (i + 5))), (2, .ref (bd_a μ 0)), (1, .ref (bd_a ε 0)), (0, .ref b)] dL_law_945 rfl (nI_add i 5) (by decide) rfl ?_
  refine bl_goto hC 18 dL_law_948 (by decide) ?_
  exact ih S' M' hRn
set_option maxRecDepth 100000 in
set_option maxHeartbeats 4000000 in
theorem law_case_25 {Γ : bd_G} {b L : Nat} {xs : Nat → Int32} {ε μ : bd_E} {R : bd_T → bd_T → Prop} (hC : bl_C Γ b L xs ε) (hy : bd_y μ = bd_y ε) (hR : bl_Rel R) {i : Nat} (hi5 : i + 5 ≤ L) (hL : L ≤ 2560) {S M : bd_T} (hRS : R S M) (ih : ∀ (S M : bd_T), R S M → bd_U Γ 4 71 23203 (cX ε S ++ cM μ M) 18 [(3, .int (nI (i + 5))), (2, .ref (bd_a μ 0)), (1, .ref (bd_a ε 0)), (0, .ref b)] []) : bd_U Γ 4 71 23203 (cX ε S ++ cM μ M) 909 [(3, .int (nI i)), (2, .ref (bd_a μ 0)), (1, .ref (bd_a ε 0)), (0, .ref b)] [] := by
  refine bl_aload_n hC 2 dL_law_909 rfl rfl ?_
  obtain ⟨r, S', M', hx, hm, hRn⟩ := hR.2.2.2.2.2.2.2.2.2.2.2.2.2.2.2.2.2.2.2.2.2.2.2.2.2.1   S M hRS
  refine bl_callX (ε' := ε) (cs := cX ε) (S := S) (S' := S') (r := r) (rm := ({ frames := 3, cells := 0, slots := 0, locals := 64 } : Room)) hC rfl [] [] (c_X9_on (bd_l Γ) (bd_D Γ) ε S (by rw [hx]; rfl)) hx mw_547 mw_544 mw_545 mw_72 mw_546 (cX_o0 ε S) rfl by_X9_on ⟨rfl, rfl, Nat.le_of_ble_eq_true rfl, Nat.le_of_ble_eq_true rfl⟩ rfl rfl (Nat.le_of_ble_eq_true rfl) ⟨Nat.le_of_ble_eq_true rfl, Nat.le_of_ble_eq_true rfl⟩ dL_law_910 [.int r] rfl ?_
  refine bl_aload_n hC 1 dL_law_913 rfl rfl ?_
  refine bl_callM (ε' := μ) (cs := cM μ) (S := M) (S' := M') (r := r) (rm := ({ frames := 2, cells := 0, slots := 0, locals := 42 } : Room)) hC hy [] [.int r] (c_X10_on (bd_l Γ) (bd_D Γ) μ M (by rw [hm]; rfl)) hm mw_825 mw_822 mw_823 mw_82 mw_824 (cM_o0 μ M) rfl by_X10_on ⟨rfl, rfl, Nat.le_of_ble_eq_true rfl, Nat.le_of_ble_eq_true rfl⟩ rfl rfl (Nat.le_of_ble_eq_true rfl) ⟨Nat.le_of_ble_eq_true rfl, Nat.le_of_ble_eq_true rfl⟩ dL_law_914 [.int r, .int r] rfl ?_
  refine bl_same hC 945 dL_law_917 (by decide) ?_
  refine bl_iinc hC 0 [(3, .int (nI (i + 5))), (2, .ref (bd_a μ 0)), (1, .ref (bd_a ε 0)), (0, .ref b)] dL_law_945 rfl (nI_add i 5) (by decide) rfl ?_
  refine bl_goto hC 18 dL_law_948 (by decide) ?_
  exact ih S' M' hRn
set_option maxRecDepth 100000 in
set_option maxHeartbeats 4000000 in
theorem law_case_26 {Γ : bd_G} {b L : Nat} {xs : Nat → Int32} {ε μ : bd_E} {R : bd_T → bd_T → Prop} (hC : bl_C Γ b L xs ε) (hy : bd_y μ = bd_y ε) (hR : bl_Rel R) {i : Nat} (hi5 : i + 5 ≤ L) (hL : L ≤ 2560) {S M : bd_T} (hRS : R S M) (ih : ∀ (S M : bd_T), R S M → bd_U Γ 4 71 23203 (cX ε S ++ cM μ M) 18 [(3, .int (nI (i + 5))), (2, .ref (bd_a μ 0)), (1, .ref (bd_a ε 0)), (0, .ref b)] []) : bd_U Γ 4 71 23203 (cX ε S ++ cM μ M) 922 [(3, .int (nI i)), (2, .ref (bd_a μ 0)), (1, .ref (bd_a ε 0)), (0, .ref b)] [] := by
  refine bl_aload_n hC 2 dL_law_922 rfl rfl ?_
  refine bl_aload_n hC 3 dL_law_923 rfl rfl ?_
  refine bl_iload_n hC 0 dL_law_924 rfl rfl ?_
  refine bl_iconst hC (1 : Int32) dL_law_925 rfl ?_
  refine bl_iadd hC dL_law_926 ?_
  rw [show nI i + (1 : Int32) = nI (i + 1) from nI_add i 1]
  refine bl_sld hC (vp_in_nI (show i + 1 < L by omega) (by omega)) dL_law_927 ?_
  rw [nI_clamp (by omega)]
  obtain ⟨r, S', M', hx, hm, hRn⟩ := hR.2.2.2.2.2.2.2.2.2.2.2.2.2.2.2.2.2.2.2.2.2.2.2.2.2.2 (xs (i + 1))  S M hRS
  refine bl_callX (ε' := ε) (cs := cX ε) (S := S) (S' := S') (r := r) (rm := ({ frames := 2, cells := 0, slots := 0, locals := 43 } : Room)) hC rfl [.int (xs (i + 1))] [] (c_X9_count (bd_l Γ) (bd_D Γ) ε (xs (i + 1)) S (by rw [hx]; rfl)) hx mw_551 mw_548 mw_549 mw_72 mw_550 (cX_o0 ε S) rfl by_X9_count ⟨rfl, rfl, Nat.le_of_ble_eq_true rfl, Nat.le_of_ble_eq_true rfl⟩ rfl rfl (Nat.le_of_ble_eq_true rfl) ⟨Nat.le_of_ble_eq_true rfl, Nat.le_of_ble_eq_true rfl⟩ dL_law_928 [.int r] rfl ?_
  refine bl_aload_n hC 1 dL_law_931 rfl rfl ?_
  refine bl_aload_n hC 3 dL_law_932 rfl rfl ?_
  refine bl_iload_n hC 0 dL_law_933 rfl rfl ?_
  refine bl_iconst hC (1 : Int32) dL_law_934 rfl ?_
  refine bl_iadd hC dL_law_935 ?_
  rw [show nI i + (1 : Int32) = nI (i + 1) from nI_add i 1]
  refine bl_sld hC (vp_in_nI (show i + 1 < L by omega) (by omega)) dL_law_936 ?_
  rw [nI_clamp (by omega)]
  refine bl_callM (ε' := μ) (cs := cM μ) (S := M) (S' := M') (r := r) (rm := ({ frames := 1, cells := 0, slots := 0, locals := 22 } : Room)) hC hy [.int (xs (i + 1))] [.int r] (c_X10_count (bd_l Γ) (bd_D Γ) μ (xs (i + 1)) M (by rw [hm]; rfl)) hm mw_829 mw_826 mw_827 mw_82 mw_828 (cM_o0 μ M) rfl by_X10_count ⟨rfl, rfl, Nat.le_of_ble_eq_true rfl, Nat.le_of_ble_eq_true rfl⟩ rfl rfl (Nat.le_of_ble_eq_true rfl) ⟨Nat.le_of_ble_eq_true rfl, Nat.le_of_ble_eq_true rfl⟩ dL_law_937 [.int r, .int r] rfl ?_
  refine bl_same hC 945 dL_law_940 (by decide) ?_
  refine bl_iinc hC 0 [(3, .int (nI (i + 5))), (2, .ref (bd_a μ 0)), (1, .ref (bd_a ε 0)), (0, .ref b)] dL_law_945 rfl (nI_add i 5) (by decide) rfl ?_
  refine bl_goto hC 18 dL_law_948 (by decide) ?_
  exact ih S' M' hRn
set_option maxRecDepth 100000 in
set_option maxHeartbeats 4000000 in
theorem law_step {Γ : bd_G} {b L : Nat} {xs : Nat → Int32} {ε μ : bd_E} {R : bd_T → bd_T → Prop} (hC : bl_C Γ b L xs ε) (hy : bd_y μ = bd_y ε) (hR : bl_Rel R) {i : Nat} (hi5 : i + 5 ≤ L) (hL : L ≤ 2560) {S M : bd_T} (hRS : R S M) (ih : ∀ (S M : bd_T), R S M → bd_U Γ 4 71 23203 (cX ε S ++ cM μ M) 18 [(3, .int (nI (i + 5))), (2, .ref (bd_a μ 0)), (1, .ref (bd_a ε 0)), (0, .ref b)] []) : bd_U Γ 4 71 23203 (cX ε S ++ cM μ M) 26 [(3, .int (nI i)), (2, .ref (bd_a μ 0)), (1, .ref (bd_a ε 0)), (0, .ref b)] [] := by
  refine bl_aload_n hC 3 dL_law_26 rfl rfl ?_
  refine bl_iload_n hC 0 dL_law_27 rfl rfl ?_
  refine bl_sld hC (vp_in_nI (show i < L by omega) (by omega)) dL_law_28 ?_
  rw [nI_clamp (by omega)]
  refine bl_bipush hC (31 : Int32) dL_law_29 rfl ?_
  refine bl_iand hC dL_law_31 ?_
  by_cases h0 : ((xs i) &&& (31 : Int32)) = 0
  · refine bl_tabIn hC (0 : Int32) (124) 156 dL_law_32 h0 (by decide) (by decide) rfl (by decide) ?_
    exact law_case_0 hC hy hR hi5 hL hRS ih
  by_cases h1 : ((xs i) &&& (31 : Int32)) = 1
  · refine bl_tabIn hC (1 : Int32) (187) 219 dL_law_32 h1 (by decide) (by decide) rfl (by decide) ?_
    exact law_case_1 hC hy hR hi5 hL hRS ih
  by_cases h2 : ((xs i) &&& (31 : Int32)) = 2
  · refine bl_tabIn hC (2 : Int32) (200) 232 dL_law_32 h2 (by decide) (by decide) rfl (by decide) ?_
    exact law_case_2 hC hy hR hi5 hL hRS ih
  by_cases h3 : ((xs i) &&& (31 : Int32)) = 3
  · refine bl_tabIn hC (3 : Int32) (233) 265 dL_law_32 h3 (by decide) (by decide) rfl (by decide) ?_
    exact law_case_3 hC hy hR hi5 hL hRS ih
  by_cases h4 : ((xs i) &&& (31 : Int32)) = 4
  · refine bl_tabIn hC (4 : Int32) (256) 288 dL_law_32 h4 (by decide) (by decide) rfl (by decide) ?_
    exact law_case_4 hC hy hR hi5 hL hRS ih
  by_cases h5 : ((xs i) &&& (31 : Int32)) = 5
  · refine bl_tabIn hC (5 : Int32) (289) 321 dL_law_32 h5 (by decide) (by decide) rfl (by decide) ?_
    exact law_case_5 hC hy hR hi5 hL hRS ih
  by_cases h6 : ((xs i) &&& (31 : Int32)) = 6
  · refine bl_tabIn hC (6 : Int32) (322) 354 dL_law_32 h6 (by decide) (by decide) rfl (by decide) ?_
    exact law_case_6 hC hy hR hi5 hL hRS ih
  by_cases h7 : ((xs i) &&& (31 : Int32)) = 7
  · refine bl_tabIn hC (7 : Int32) (365) 397 dL_law_32 h7 (by decide) (by decide) rfl (by decide) ?_
    exact law_case_7 hC hy hR hi5 hL hRS ih
  by_cases h8 : ((xs i) &&& (31 : Int32)) = 8
  · refine bl_tabIn hC (8 : Int32) (418) 450 dL_law_32 h8 (by decide) (by decide) rfl (by decide) ?_
    exact law_case_8 hC hy hR hi5 hL hRS ih
  by_cases h9 : ((xs i) &&& (31 : Int32)) = 9
  · refine bl_tabIn hC (9 : Int32) (467) 499 dL_law_32 h9 (by decide) (by decide) rfl (by decide) ?_
    exact law_case_9 hC hy hR hi5 hL hRS ih
  by_cases h10 : ((xs i) &&& (31 : Int32)) = 10
  · refine bl_tabIn hC (10 : Int32) (520) 552 dL_law_32 h10 (by decide) (by decide) rfl (by decide) ?_
    exact law_case_10 hC hy hR hi5 hL hRS ih
  by_cases h11 : ((xs i) &&& (31 : Int32)) = 11
  · refine bl_tabIn hC (11 : Int32) (543) 575 dL_law_32 h11 (by decide) (by decide) rfl (by decide) ?_
    exact law_case_11 hC hy hR hi5 hL hRS ih
  by_cases h12 : ((xs i) &&& (31 : Int32)) = 12
  · refine bl_tabIn hC (12 : Int32) (576) 608 dL_law_32 h12 (by decide) (by decide) rfl (by decide) ?_
    exact law_case_12 hC hy hR hi5 hL hRS ih
  by_cases h13 : ((xs i) &&& (31 : Int32)) = 13
  · refine bl_tabIn hC (13 : Int32) (590) 622 dL_law_32 h13 (by decide) (by decide) rfl (by decide) ?_
    exact law_case_13 hC hy hR hi5 hL hRS ih
  by_cases h14 : ((xs i) &&& (31 : Int32)) = 14
  · refine bl_tabIn hC (14 : Int32) (613) 645 dL_law_32 h14 (by decide) (by decide) rfl (by decide) ?_
    exact law_case_14 hC hy hR hi5 hL hRS ih
  by_cases h15 : ((xs i) &&& (31 : Int32)) = 15
  · refine bl_tabIn hC (15 : Int32) (656) 688 dL_law_32 h15 (by decide) (by decide) rfl (by decide) ?_
    exact law_case_15 hC hy hR hi5 hL hRS ih
  by_cases h16 : ((xs i) &&& (31 : Int32)) = 16
  · refine bl_tabIn hC (16 : Int32) (700) 732 dL_law_32 h16 (by decide) (by decide) rfl (by decide) ?_
    exact law_case_16 hC hy hR hi5 hL hRS ih
  by_cases h17 : ((xs i) &&& (31 : Int32)) = 17
  · refine bl_tabIn hC (17 : Int32) (723) 755 dL_law_32 h17 (by decide) (by decide) rfl (by decide) ?_
    exact law_case_17 hC hy hR hi5 hL hRS ih
  by_cases h18 : ((xs i) &&& (31 : Int32)) = 18
  · refine bl_tabIn hC (18 : Int32) (736) 768 dL_law_32 h18 (by decide) (by decide) rfl (by decide) ?_
    exact law_case_18 hC hy hR hi5 hL hRS ih
  by_cases h19 : ((xs i) &&& (31 : Int32)) = 19
  · refine bl_tabIn hC (19 : Int32) (749) 781 dL_law_32 h19 (by decide) (by decide) rfl (by decide) ?_
    exact law_case_19 hC hy hR hi5 hL hRS ih
  by_cases h20 : ((xs i) &&& (31 : Int32)) = 20
  · refine bl_tabIn hC (20 : Int32) (762) 794 dL_law_32 h20 (by decide) (by decide) rfl (by decide) ?_
    exact law_case_20 hC hy hR hi5 hL hRS ih
  by_cases h21 : ((xs i) &&& (31 : Int32)) = 21
  · refine bl_tabIn hC (21 : Int32) (775) 807 dL_law_32 h21 (by decide) (by decide) rfl (by decide) ?_
    exact law_case_21 hC hy hR hi5 hL hRS ih
  by_cases h22 : ((xs i) &&& (31 : Int32)) = 22
  · refine bl_tabIn hC (22 : Int32) (808) 840 dL_law_32 h22 (by decide) (by decide) rfl (by decide) ?_
    exact law_case_22 hC hy hR hi5 hL hRS ih
  by_cases h23 : ((xs i) &&& (31 : Int32)) = 23
  · refine bl_tabIn hC (23 : Int32) (841) 873 dL_law_32 h23 (by decide) (by decide) rfl (by decide) ?_
    exact law_case_23 hC hy hR hi5 hL hRS ih
  by_cases h24 : ((xs i) &&& (31 : Int32)) = 24
  · refine bl_tabIn hC (24 : Int32) (864) 896 dL_law_32 h24 (by decide) (by decide) rfl (by decide) ?_
    exact law_case_24 hC hy hR hi5 hL hRS ih
  by_cases h25 : ((xs i) &&& (31 : Int32)) = 25
  · refine bl_tabIn hC (25 : Int32) (877) 909 dL_law_32 h25 (by decide) (by decide) rfl (by decide) ?_
    exact law_case_25 hC hy hR hi5 hL hRS ih
  by_cases h26 : ((xs i) &&& (31 : Int32)) = 26
  · refine bl_tabIn hC (26 : Int32) (890) 922 dL_law_32 h26 (by decide) (by decide) rfl (by decide) ?_
    exact law_case_26 hC hy hR hi5 hL hRS ih
  refine bl_tabOut hC 945 dL_law_32 (by have g0 := lv_neT (k := (0 : Int32)) (a := 0) h0 rfl; have g1 := lv_neT (k := (1 : Int32)) (a := 1) h1 rfl; have g2 := lv_neT (k := (2 : Int32)) (a := 2) h2 rfl; have g3 := lv_neT (k := (3 : Int32)) (a := 3) h3 rfl; have g4 := lv_neT (k := (4 : Int32)) (a := 4) h4 rfl; have g5 := lv_neT (k := (5 : Int32)) (a := 5) h5 rfl; have g6 := lv_neT (k := (6 : Int32)) (a := 6) h6 rfl; have g7 := lv_neT (k := (7 : Int32)) (a := 7) h7 rfl; have g8 := lv_neT (k := (8 : Int32)) (a := 8) h8 rfl; have g9 := lv_neT (k := (9 : Int32)) (a := 9) h9 rfl; have g10 := lv_neT (k := (10 : Int32)) (a := 10) h10 rfl; have g11 := lv_neT (k := (11 : Int32)) (a := 11) h11 rfl; have g12 := lv_neT (k := (12 : Int32)) (a := 12) h12 rfl; have g13 := lv_neT (k := (13 : Int32)) (a := 13) h13 rfl; have g14 := lv_neT (k := (14 : Int32)) (a := 14) h14 rfl; have g15 := lv_neT (k := (15 : Int32)) (a := 15) h15 rfl; have g16 := lv_neT (k := (16 : Int32)) (a := 16) h16 rfl; have g17 := lv_neT (k := (17 : Int32)) (a := 17) h17 rfl; have g18 := lv_neT (k := (18 : Int32)) (a := 18) h18 rfl; have g19 := lv_neT (k := (19 : Int32)) (a := 19) h19 rfl; have g20 := lv_neT (k := (20 : Int32)) (a := 20) h20 rfl; have g21 := lv_neT (k := (21 : Int32)) (a := 21) h21 rfl; have g22 := lv_neT (k := (22 : Int32)) (a := 22) h22 rfl; have g23 := lv_neT (k := (23 : Int32)) (a := 23) h23 rfl; have g24 := lv_neT (k := (24 : Int32)) (a := 24) h24 rfl; have g25 := lv_neT (k := (25 : Int32)) (a := 25) h25 rfl; have g26 := lv_neT (k := (26 : Int32)) (a := 26) h26 rfl; omega) (by decide) ?_
  refine bl_iinc hC 0 [(3, .int (nI (i + 5))), (2, .ref (bd_a μ 0)), (1, .ref (bd_a ε 0)), (0, .ref b)] dL_law_945 rfl (nI_add i 5) (by decide) rfl ?_
  refine bl_goto hC 18 dL_law_948 (by decide) ?_
  exact ih S M hRS
set_option maxRecDepth 100000 in
set_option maxHeartbeats 4000000 in
theorem law_loop {Γ : bd_G} {b L : Nat} {xs : Nat → Int32} {ε μ : bd_E} {R : bd_T → bd_T → Prop} (hC : bl_C Γ b L xs ε) (hy : bd_y μ = bd_y ε) (hR : bl_Rel R) (hL : L ≤ 2560) : ∀ (n i : Nat) (S M : bd_T), i ≤ L → L < i + n → R S M → bd_U Γ 4 71 23203 (cX ε S ++ cM μ M) 18 [(3, .int (nI i)), (2, .ref (bd_a μ 0)), (1, .ref (bd_a ε 0)), (0, .ref b)] [] := by
  intro n
  induction n with
  | zero =>
    intro i S M hi hn hRS
    omega
  | succ n ih =>
    intro i S M hi hn hRS
    refine bl_iload_n hC 0 dL_law_18 rfl rfl ?_
    refine bl_aload_n hC 3 dL_law_19 rfl rfl ?_
    refine bl_slen hC dL_law_20 ?_
    refine bl_iconst hC (5 : Int32) dL_law_21 rfl ?_
    refine bl_isub hC dL_law_22 ?_
    have e1 : (nI i).toInt = i := nI_toInt (by omega)
    have e2 : (nI L - 5).toInt = (L : Int) - 5 := by
      rw [Int32.toInt_sub, nI_toInt (by omega), show (5 : Int32).toInt = 5 from rfl]
      unfold Int.bmod
      simp only
      split <;> omega
    refine bl_icmp_gt hC 951 dL_law_23 (by decide) (fun q => ?_) (fun q => ?_)
    · refine bl_iconst hC (1 : Int32) dL_law_951 rfl ?_
      exact bl_ret hC dL_law_952
    · have hi5 : i + 5 ≤ L := by
        rw [Int32.lt_iff_toInt_lt, e1, e2] at q
        omega
      exact law_step hC hy hR hi5 hL hRS (fun S' M' h => ih (i + 5) S' M' (by omega) (by omega) h)
