theorem d_La_law_0 : decode code 0 = .ok (.new 8, 3) := by decide +kernel
theorem d_La_law_3 : decode code 3 = .ok (.dup, 1) := by decide +kernel
theorem d_La_law_4 : decode code 4 = .ok (.invokespecial 66, 3) := by decide +kernel
theorem d_La_law_7 : decode code 7 = .ok (.astore_n 1, 1) := by decide +kernel
theorem d_La_law_8 : decode code 8 = .ok (.new 67, 3) := by decide +kernel
theorem d_La_law_11 : decode code 11 = .ok (.dup, 1) := by decide +kernel
theorem d_La_law_12 : decode code 12 = .ok (.invokespecial 69, 3) := by decide +kernel
theorem d_La_law_15 : decode code 15 = .ok (.astore_n 2, 1) := by decide +kernel
theorem d_La_law_16 : decode code 16 = .ok (.iconst 1, 1) := by decide +kernel
theorem d_La_law_17 : decode code 17 = .ok (.newarray .long, 2) := by decide +kernel
theorem d_La_law_19 : decode code 19 = .ok (.astore_n 3, 1) := by decide +kernel
theorem d_La_law_20 : decode code 20 = .ok (.iconst 1, 1) := by decide +kernel
theorem d_La_law_21 : decode code 21 = .ok (.newarray .double, 2) := by decide +kernel
theorem d_La_law_23 : decode code 23 = .ok (.astore 4, 2) := by decide +kernel
theorem d_La_law_25 : decode code 25 = .ok (.iconst 0, 1) := by decide +kernel
theorem d_La_law_26 : decode code 26 = .ok (.istore 5, 2) := by decide +kernel
theorem d_La_law_28 : decode code 28 = .ok (.iload 5, 2) := by decide +kernel
theorem d_La_law_30 : decode code 30 = .ok (.aload_n 0, 1) := by decide +kernel
theorem d_La_law_31 : decode code 31 = .ok (.arraylength, 1) := by decide +kernel
theorem d_La_law_32 : decode code 32 = .ok (.iconst 5, 1) := by decide +kernel
theorem d_La_law_33 : decode code 33 = .ok (.isub, 1) := by decide +kernel
theorem d_La_law_34 : decode code 34 = .ok (.if_icmp .gt (1171), 3) := by decide +kernel
theorem d_La_law_37 : decode code 37 = .ok (.aload_n 0, 1) := by decide +kernel
theorem d_La_law_38 : decode code 38 = .ok (.iload 5, 2) := by decide +kernel
theorem d_La_law_40 : decode code 40 = .ok (.iaload, 1) := by decide +kernel
theorem d_La_law_41 : decode code 41 = .ok (.bipush (31), 2) := by decide +kernel
theorem d_La_law_43 : decode code 43 = .ok (.iand, 1) := by decide +kernel
theorem d_La_law_44 : decode code 44 = .ok (.tableswitch (1155) (0) (16) #[84, 144, 216, 252, 324, 399, 474, 537, 600, 719, 775, 788, 825, 905, 985, 1086, 1142], 84) := by decide +kernel
theorem d_La_law_128 : decode code 128 = .ok (.aload_n 1, 1) := by decide +kernel
theorem d_La_law_129 : decode code 129 = .ok (.aload_n 0, 1) := by decide +kernel
theorem d_La_law_130 : decode code 130 = .ok (.iload 5, 2) := by decide +kernel
theorem d_La_law_132 : decode code 132 = .ok (.iconst 1, 1) := by decide +kernel
theorem d_La_law_133 : decode code 133 = .ok (.iadd, 1) := by decide +kernel
theorem d_La_law_134 : decode code 134 = .ok (.iaload, 1) := by decide +kernel
theorem d_La_law_135 : decode code 135 = .ok (.aload_n 0, 1) := by decide +kernel
theorem d_La_law_136 : decode code 136 = .ok (.iload 5, 2) := by decide +kernel
theorem d_La_law_138 : decode code 138 = .ok (.iconst 2, 1) := by decide +kernel
theorem d_La_law_139 : decode code 139 = .ok (.iadd, 1) := by decide +kernel
theorem d_La_law_140 : decode code 140 = .ok (.iaload, 1) := by decide +kernel
theorem d_La_law_141 : decode code 141 = .ok (.aload_n 0, 1) := by decide +kernel
theorem d_La_law_142 : decode code 142 = .ok (.iload 5, 2) := by decide +kernel
theorem d_La_law_144 : decode code 144 = .ok (.iconst 3, 1) := by decide +kernel
theorem d_La_law_145 : decode code 145 = .ok (.iadd, 1) := by decide +kernel
theorem d_La_law_146 : decode code 146 = .ok (.iaload, 1) := by decide +kernel
theorem d_La_law_147 : decode code 147 = .ok (.invokestatic 70, 3) := by decide +kernel
theorem d_La_law_150 : decode code 150 = .ok (.istore 6, 2) := by decide +kernel
theorem d_La_law_152 : decode code 152 = .ok (.aload_n 2, 1) := by decide +kernel
theorem d_La_law_153 : decode code 153 = .ok (.aload_n 0, 1) := by decide +kernel
theorem d_La_law_154 : decode code 154 = .ok (.iload 5, 2) := by decide +kernel
theorem d_La_law_156 : decode code 156 = .ok (.iconst 1, 1) := by decide +kernel
theorem d_La_law_157 : decode code 157 = .ok (.iadd, 1) := by decide +kernel
theorem d_La_law_158 : decode code 158 = .ok (.iaload, 1) := by decide +kernel
theorem d_La_law_159 : decode code 159 = .ok (.aload_n 0, 1) := by decide +kernel
theorem d_La_law_160 : decode code 160 = .ok (.iload 5, 2) := by decide +kernel
theorem d_La_law_162 : decode code 162 = .ok (.iconst 2, 1) := by decide +kernel
theorem d_La_law_163 : decode code 163 = .ok (.iadd, 1) := by decide +kernel
theorem d_La_law_164 : decode code 164 = .ok (.iaload, 1) := by decide +kernel
theorem d_La_law_165 : decode code 165 = .ok (.aload_n 0, 1) := by decide +kernel
theorem d_La_law_166 : decode code 166 = .ok (.iload 5, 2) := by decide +kernel
theorem d_La_law_168 : decode code 168 = .ok (.iconst 3, 1) := by decide +kernel
theorem d_La_law_169 : decode code 169 = .ok (.iadd, 1) := by decide +kernel
theorem d_La_law_170 : decode code 170 = .ok (.iaload, 1) := by decide +kernel
theorem d_La_law_171 : decode code 171 = .ok (.invokevirtual 75, 3) := by decide +kernel
theorem d_La_law_174 : decode code 174 = .ok (.aload_n 2, 1) := by decide +kernel
theorem d_La_law_175 : decode code 175 = .ok (.invokevirtual 76, 3) := by decide +kernel
theorem d_La_law_178 : decode code 178 = .ok (.iload 6, 2) := by decide +kernel
theorem d_La_law_180 : decode code 180 = .ok (.if_icmp .eq (5), 3) := by decide +kernel
theorem d_La_law_183 : decode code 183 = .ok (.iconst 0, 1) := by decide +kernel
theorem d_La_law_184 : decode code 184 = .ok (.ireturn, 1) := by decide +kernel
theorem d_La_law_185 : decode code 185 = .ok (.goto (1014), 3) := by decide +kernel
theorem d_La_law_188 : decode code 188 = .ok (.aload_n 1, 1) := by decide +kernel
theorem d_La_law_189 : decode code 189 = .ok (.aload_n 0, 1) := by decide +kernel
theorem d_La_law_190 : decode code 190 = .ok (.iload 5, 2) := by decide +kernel
theorem d_La_law_192 : decode code 192 = .ok (.iconst 1, 1) := by decide +kernel
theorem d_La_law_193 : decode code 193 = .ok (.iadd, 1) := by decide +kernel
theorem d_La_law_194 : decode code 194 = .ok (.iaload, 1) := by decide +kernel
theorem d_La_law_195 : decode code 195 = .ok (.aload_n 0, 1) := by decide +kernel
theorem d_La_law_196 : decode code 196 = .ok (.iload 5, 2) := by decide +kernel
theorem d_La_law_198 : decode code 198 = .ok (.iconst 2, 1) := by decide +kernel
theorem d_La_law_199 : decode code 199 = .ok (.iadd, 1) := by decide +kernel
theorem d_La_law_200 : decode code 200 = .ok (.iaload, 1) := by decide +kernel
theorem d_La_law_201 : decode code 201 = .ok (.aload_n 0, 1) := by decide +kernel
theorem d_La_law_202 : decode code 202 = .ok (.iload 5, 2) := by decide +kernel
theorem d_La_law_204 : decode code 204 = .ok (.iconst 3, 1) := by decide +kernel
theorem d_La_law_205 : decode code 205 = .ok (.iadd, 1) := by decide +kernel
theorem d_La_law_206 : decode code 206 = .ok (.iaload, 1) := by decide +kernel
theorem d_La_law_207 : decode code 207 = .ok (.aload_n 0, 1) := by decide +kernel
theorem d_La_law_208 : decode code 208 = .ok (.iload 5, 2) := by decide +kernel
theorem d_La_law_210 : decode code 210 = .ok (.iconst 4, 1) := by decide +kernel
theorem d_La_law_211 : decode code 211 = .ok (.iadd, 1) := by decide +kernel
theorem d_La_law_212 : decode code 212 = .ok (.iaload, 1) := by decide +kernel
theorem d_La_law_213 : decode code 213 = .ok (.invokestatic 80, 3) := by decide +kernel
theorem d_La_law_216 : decode code 216 = .ok (.istore 6, 2) := by decide +kernel
theorem d_La_law_218 : decode code 218 = .ok (.aload_n 2, 1) := by decide +kernel
theorem d_La_law_219 : decode code 219 = .ok (.aload_n 0, 1) := by decide +kernel
theorem d_La_law_220 : decode code 220 = .ok (.iload 5, 2) := by decide +kernel
theorem d_La_law_222 : decode code 222 = .ok (.iconst 1, 1) := by decide +kernel
theorem d_La_law_223 : decode code 223 = .ok (.iadd, 1) := by decide +kernel
theorem d_La_law_224 : decode code 224 = .ok (.iaload, 1) := by decide +kernel
theorem d_La_law_225 : decode code 225 = .ok (.aload_n 0, 1) := by decide +kernel
theorem d_La_law_226 : decode code 226 = .ok (.iload 5, 2) := by decide +kernel
theorem d_La_law_228 : decode code 228 = .ok (.iconst 2, 1) := by decide +kernel
theorem d_La_law_229 : decode code 229 = .ok (.iadd, 1) := by decide +kernel
theorem d_La_law_230 : decode code 230 = .ok (.iaload, 1) := by decide +kernel
theorem d_La_law_231 : decode code 231 = .ok (.aload_n 0, 1) := by decide +kernel
theorem d_La_law_232 : decode code 232 = .ok (.iload 5, 2) := by decide +kernel
theorem d_La_law_234 : decode code 234 = .ok (.iconst 3, 1) := by decide +kernel
theorem d_La_law_235 : decode code 235 = .ok (.iadd, 1) := by decide +kernel
theorem d_La_law_236 : decode code 236 = .ok (.iaload, 1) := by decide +kernel
theorem d_La_law_237 : decode code 237 = .ok (.aload_n 0, 1) := by decide +kernel
theorem d_La_law_238 : decode code 238 = .ok (.iload 5, 2) := by decide +kernel
theorem d_La_law_240 : decode code 240 = .ok (.iconst 4, 1) := by decide +kernel
theorem d_La_law_241 : decode code 241 = .ok (.iadd, 1) := by decide +kernel
theorem d_La_law_242 : decode code 242 = .ok (.iaload, 1) := by decide +kernel
theorem d_La_law_243 : decode code 243 = .ok (.invokevirtual 83, 3) := by decide +kernel
theorem d_La_law_246 : decode code 246 = .ok (.aload_n 2, 1) := by decide +kernel
theorem d_La_law_247 : decode code 247 = .ok (.invokevirtual 76, 3) := by decide +kernel
theorem d_La_law_250 : decode code 250 = .ok (.iload 6, 2) := by decide +kernel
theorem d_La_law_252 : decode code 252 = .ok (.if_icmp .eq (5), 3) := by decide +kernel
theorem d_La_law_255 : decode code 255 = .ok (.iconst 0, 1) := by decide +kernel
theorem d_La_law_256 : decode code 256 = .ok (.ireturn, 1) := by decide +kernel
theorem d_La_law_257 : decode code 257 = .ok (.goto (942), 3) := by decide +kernel
theorem d_La_law_260 : decode code 260 = .ok (.aload_n 1, 1) := by decide +kernel
theorem d_La_law_261 : decode code 261 = .ok (.aload_n 0, 1) := by decide +kernel
theorem d_La_law_262 : decode code 262 = .ok (.iload 5, 2) := by decide +kernel
theorem d_La_law_264 : decode code 264 = .ok (.iconst 1, 1) := by decide +kernel
theorem d_La_law_265 : decode code 265 = .ok (.iadd, 1) := by decide +kernel
theorem d_La_law_266 : decode code 266 = .ok (.iaload, 1) := by decide +kernel
theorem d_La_law_267 : decode code 267 = .ok (.invokestatic 84, 3) := by decide +kernel
theorem d_La_law_270 : decode code 270 = .ok (.istore 6, 2) := by decide +kernel
theorem d_La_law_272 : decode code 272 = .ok (.aload_n 2, 1) := by decide +kernel
theorem d_La_law_273 : decode code 273 = .ok (.aload_n 0, 1) := by decide +kernel
theorem d_La_law_274 : decode code 274 = .ok (.iload 5, 2) := by decide +kernel
theorem d_La_law_276 : decode code 276 = .ok (.iconst 1, 1) := by decide +kernel
theorem d_La_law_277 : decode code 277 = .ok (.iadd, 1) := by decide +kernel
theorem d_La_law_278 : decode code 278 = .ok (.iaload, 1) := by decide +kernel
theorem d_La_law_279 : decode code 279 = .ok (.invokevirtual 87, 3) := by decide +kernel
theorem d_La_law_282 : decode code 282 = .ok (.aload_n 2, 1) := by decide +kernel
theorem d_La_law_283 : decode code 283 = .ok (.invokevirtual 76, 3) := by decide +kernel
theorem d_La_law_286 : decode code 286 = .ok (.iload 6, 2) := by decide +kernel
theorem d_La_law_288 : decode code 288 = .ok (.if_icmp .eq (5), 3) := by decide +kernel
theorem d_La_law_291 : decode code 291 = .ok (.iconst 0, 1) := by decide +kernel
theorem d_La_law_292 : decode code 292 = .ok (.ireturn, 1) := by decide +kernel
theorem d_La_law_293 : decode code 293 = .ok (.goto (906), 3) := by decide +kernel
theorem d_La_law_296 : decode code 296 = .ok (.aload_n 1, 1) := by decide +kernel
theorem d_La_law_297 : decode code 297 = .ok (.aload_n 0, 1) := by decide +kernel
theorem d_La_law_298 : decode code 298 = .ok (.iload 5, 2) := by decide +kernel
theorem d_La_law_300 : decode code 300 = .ok (.iconst 1, 1) := by decide +kernel
theorem d_La_law_301 : decode code 301 = .ok (.iadd, 1) := by decide +kernel
theorem d_La_law_302 : decode code 302 = .ok (.iaload, 1) := by decide +kernel
theorem d_La_law_303 : decode code 303 = .ok (.aload_n 0, 1) := by decide +kernel
theorem d_La_law_304 : decode code 304 = .ok (.iload 5, 2) := by decide +kernel
theorem d_La_law_306 : decode code 306 = .ok (.iconst 2, 1) := by decide +kernel
theorem d_La_law_307 : decode code 307 = .ok (.iadd, 1) := by decide +kernel
theorem d_La_law_308 : decode code 308 = .ok (.iaload, 1) := by decide +kernel
theorem d_La_law_309 : decode code 309 = .ok (.aload_n 0, 1) := by decide +kernel
theorem d_La_law_310 : decode code 310 = .ok (.iload 5, 2) := by decide +kernel
theorem d_La_law_312 : decode code 312 = .ok (.iconst 3, 1) := by decide +kernel
theorem d_La_law_313 : decode code 313 = .ok (.iadd, 1) := by decide +kernel
theorem d_La_law_314 : decode code 314 = .ok (.iaload, 1) := by decide +kernel
theorem d_La_law_315 : decode code 315 = .ok (.aload_n 0, 1) := by decide +kernel
theorem d_La_law_316 : decode code 316 = .ok (.iload 5, 2) := by decide +kernel
theorem d_La_law_318 : decode code 318 = .ok (.iconst 4, 1) := by decide +kernel
theorem d_La_law_319 : decode code 319 = .ok (.iadd, 1) := by decide +kernel
theorem d_La_law_320 : decode code 320 = .ok (.iaload, 1) := by decide +kernel
theorem d_La_law_321 : decode code 321 = .ok (.invokestatic 88, 3) := by decide +kernel
theorem d_La_law_324 : decode code 324 = .ok (.istore 6, 2) := by decide +kernel
theorem d_La_law_326 : decode code 326 = .ok (.aload_n 2, 1) := by decide +kernel
theorem d_La_law_327 : decode code 327 = .ok (.aload_n 0, 1) := by decide +kernel
theorem d_La_law_328 : decode code 328 = .ok (.iload 5, 2) := by decide +kernel
theorem d_La_law_330 : decode code 330 = .ok (.iconst 1, 1) := by decide +kernel
theorem d_La_law_331 : decode code 331 = .ok (.iadd, 1) := by decide +kernel
theorem d_La_law_332 : decode code 332 = .ok (.iaload, 1) := by decide +kernel
theorem d_La_law_333 : decode code 333 = .ok (.aload_n 0, 1) := by decide +kernel
theorem d_La_law_334 : decode code 334 = .ok (.iload 5, 2) := by decide +kernel
theorem d_La_law_336 : decode code 336 = .ok (.iconst 2, 1) := by decide +kernel
theorem d_La_law_337 : decode code 337 = .ok (.iadd, 1) := by decide +kernel
theorem d_La_law_338 : decode code 338 = .ok (.iaload, 1) := by decide +kernel
theorem d_La_law_339 : decode code 339 = .ok (.aload_n 0, 1) := by decide +kernel
theorem d_La_law_340 : decode code 340 = .ok (.iload 5, 2) := by decide +kernel
theorem d_La_law_342 : decode code 342 = .ok (.iconst 3, 1) := by decide +kernel
theorem d_La_law_343 : decode code 343 = .ok (.iadd, 1) := by decide +kernel
theorem d_La_law_344 : decode code 344 = .ok (.iaload, 1) := by decide +kernel
theorem d_La_law_345 : decode code 345 = .ok (.aload_n 0, 1) := by decide +kernel
theorem d_La_law_346 : decode code 346 = .ok (.iload 5, 2) := by decide +kernel
theorem d_La_law_348 : decode code 348 = .ok (.iconst 4, 1) := by decide +kernel
theorem d_La_law_349 : decode code 349 = .ok (.iadd, 1) := by decide +kernel
theorem d_La_law_350 : decode code 350 = .ok (.iaload, 1) := by decide +kernel
theorem d_La_law_351 : decode code 351 = .ok (.invokevirtual 90, 3) := by decide +kernel
theorem d_La_law_354 : decode code 354 = .ok (.aload_n 2, 1) := by decide +kernel
theorem d_La_law_355 : decode code 355 = .ok (.invokevirtual 76, 3) := by decide +kernel
theorem d_La_law_358 : decode code 358 = .ok (.iload 6, 2) := by decide +kernel
theorem d_La_law_360 : decode code 360 = .ok (.if_icmp .eq (5), 3) := by decide +kernel
theorem d_La_law_363 : decode code 363 = .ok (.iconst 0, 1) := by decide +kernel
theorem d_La_law_364 : decode code 364 = .ok (.ireturn, 1) := by decide +kernel
theorem d_La_law_365 : decode code 365 = .ok (.goto (834), 3) := by decide +kernel
theorem d_La_law_368 : decode code 368 = .ok (.aload_n 1, 1) := by decide +kernel
theorem d_La_law_369 : decode code 369 = .ok (.aload_n 0, 1) := by decide +kernel
theorem d_La_law_370 : decode code 370 = .ok (.iload 5, 2) := by decide +kernel
theorem d_La_law_372 : decode code 372 = .ok (.iconst 1, 1) := by decide +kernel
theorem d_La_law_373 : decode code 373 = .ok (.iadd, 1) := by decide +kernel
theorem d_La_law_374 : decode code 374 = .ok (.iaload, 1) := by decide +kernel
theorem d_La_law_375 : decode code 375 = .ok (.aload_n 0, 1) := by decide +kernel
theorem d_La_law_376 : decode code 376 = .ok (.iload 5, 2) := by decide +kernel
theorem d_La_law_378 : decode code 378 = .ok (.iconst 2, 1) := by decide +kernel
theorem d_La_law_379 : decode code 379 = .ok (.iadd, 1) := by decide +kernel
theorem d_La_law_380 : decode code 380 = .ok (.iaload, 1) := by decide +kernel
theorem d_La_law_381 : decode code 381 = .ok (.aload_n 3, 1) := by decide +kernel
theorem d_La_law_382 : decode code 382 = .ok (.invokestatic 91, 3) := by decide +kernel
theorem d_La_law_385 : decode code 385 = .ok (.istore 6, 2) := by decide +kernel
theorem d_La_law_387 : decode code 387 = .ok (.aload_n 2, 1) := by decide +kernel
theorem d_La_law_388 : decode code 388 = .ok (.aload_n 0, 1) := by decide +kernel
theorem d_La_law_389 : decode code 389 = .ok (.iload 5, 2) := by decide +kernel
theorem d_La_law_391 : decode code 391 = .ok (.iconst 1, 1) := by decide +kernel
theorem d_La_law_392 : decode code 392 = .ok (.iadd, 1) := by decide +kernel
theorem d_La_law_393 : decode code 393 = .ok (.iaload, 1) := by decide +kernel
theorem d_La_law_394 : decode code 394 = .ok (.aload_n 0, 1) := by decide +kernel
theorem d_La_law_395 : decode code 395 = .ok (.iload 5, 2) := by decide +kernel
theorem d_La_law_397 : decode code 397 = .ok (.iconst 2, 1) := by decide +kernel
theorem d_La_law_398 : decode code 398 = .ok (.iadd, 1) := by decide +kernel
theorem d_La_law_399 : decode code 399 = .ok (.iaload, 1) := by decide +kernel
theorem d_La_law_400 : decode code 400 = .ok (.invokevirtual 94, 3) := by decide +kernel
theorem d_La_law_403 : decode code 403 = .ok (.istore 7, 2) := by decide +kernel
theorem d_La_law_405 : decode code 405 = .ok (.aload_n 2, 1) := by decide +kernel
theorem d_La_law_406 : decode code 406 = .ok (.invokevirtual 76, 3) := by decide +kernel
theorem d_La_law_409 : decode code 409 = .ok (.iload 6, 2) := by decide +kernel
theorem d_La_law_411 : decode code 411 = .ok (.if_icmp .eq (5), 3) := by decide +kernel
theorem d_La_law_414 : decode code 414 = .ok (.iconst 0, 1) := by decide +kernel
theorem d_La_law_415 : decode code 415 = .ok (.ireturn, 1) := by decide +kernel
theorem d_La_law_416 : decode code 416 = .ok (.iload 6, 2) := by decide +kernel
theorem d_La_law_418 : decode code 418 = .ok (.ifCond .ne (22), 3) := by decide +kernel
theorem d_La_law_421 : decode code 421 = .ok (.aload_n 3, 1) := by decide +kernel
theorem d_La_law_422 : decode code 422 = .ok (.iconst 0, 1) := by decide +kernel
theorem d_La_law_423 : decode code 423 = .ok (.laload, 1) := by decide +kernel
theorem d_La_law_424 : decode code 424 = .ok (.iload 7, 2) := by decide +kernel
theorem d_La_law_426 : decode code 426 = .ok (.ifCond .eq (7), 3) := by decide +kernel
theorem d_La_law_429 : decode code 429 = .ok (.lconst 1, 1) := by decide +kernel
theorem d_La_law_430 : decode code 430 = .ok (.goto (4), 3) := by decide +kernel
theorem d_La_law_433 : decode code 433 = .ok (.lconst 0, 1) := by decide +kernel
theorem d_La_law_434 : decode code 434 = .ok (.lcmp, 1) := by decide +kernel
theorem d_La_law_435 : decode code 435 = .ok (.ifCond .eq (5), 3) := by decide +kernel
theorem d_La_law_438 : decode code 438 = .ok (.iconst 0, 1) := by decide +kernel
theorem d_La_law_439 : decode code 439 = .ok (.ireturn, 1) := by decide +kernel
theorem d_La_law_440 : decode code 440 = .ok (.goto (759), 3) := by decide +kernel
theorem d_La_law_443 : decode code 443 = .ok (.aload_n 1, 1) := by decide +kernel
theorem d_La_law_444 : decode code 444 = .ok (.aload_n 0, 1) := by decide +kernel
theorem d_La_law_445 : decode code 445 = .ok (.iload 5, 2) := by decide +kernel
theorem d_La_law_447 : decode code 447 = .ok (.iconst 1, 1) := by decide +kernel
theorem d_La_law_448 : decode code 448 = .ok (.iadd, 1) := by decide +kernel
theorem d_La_law_449 : decode code 449 = .ok (.iaload, 1) := by decide +kernel
theorem d_La_law_450 : decode code 450 = .ok (.aload_n 0, 1) := by decide +kernel
theorem d_La_law_451 : decode code 451 = .ok (.iload 5, 2) := by decide +kernel
theorem d_La_law_453 : decode code 453 = .ok (.iconst 2, 1) := by decide +kernel
theorem d_La_law_454 : decode code 454 = .ok (.iadd, 1) := by decide +kernel
theorem d_La_law_455 : decode code 455 = .ok (.iaload, 1) := by decide +kernel
theorem d_La_law_456 : decode code 456 = .ok (.aload_n 3, 1) := by decide +kernel
theorem d_La_law_457 : decode code 457 = .ok (.invokestatic 95, 3) := by decide +kernel
theorem d_La_law_460 : decode code 460 = .ok (.istore 6, 2) := by decide +kernel
theorem d_La_law_462 : decode code 462 = .ok (.aload_n 2, 1) := by decide +kernel
theorem d_La_law_463 : decode code 463 = .ok (.aload_n 0, 1) := by decide +kernel
theorem d_La_law_464 : decode code 464 = .ok (.iload 5, 2) := by decide +kernel
theorem d_La_law_466 : decode code 466 = .ok (.iconst 1, 1) := by decide +kernel
theorem d_La_law_467 : decode code 467 = .ok (.iadd, 1) := by decide +kernel
theorem d_La_law_468 : decode code 468 = .ok (.iaload, 1) := by decide +kernel
theorem d_La_law_469 : decode code 469 = .ok (.aload_n 0, 1) := by decide +kernel
theorem d_La_law_470 : decode code 470 = .ok (.iload 5, 2) := by decide +kernel
theorem d_La_law_472 : decode code 472 = .ok (.iconst 2, 1) := by decide +kernel
theorem d_La_law_473 : decode code 473 = .ok (.iadd, 1) := by decide +kernel
theorem d_La_law_474 : decode code 474 = .ok (.iaload, 1) := by decide +kernel
theorem d_La_law_475 : decode code 475 = .ok (.invokevirtual 97, 3) := by decide +kernel
theorem d_La_law_478 : decode code 478 = .ok (.istore 7, 2) := by decide +kernel
theorem d_La_law_480 : decode code 480 = .ok (.aload_n 2, 1) := by decide +kernel
theorem d_La_law_481 : decode code 481 = .ok (.invokevirtual 76, 3) := by decide +kernel
theorem d_La_law_484 : decode code 484 = .ok (.iload 6, 2) := by decide +kernel
theorem d_La_law_486 : decode code 486 = .ok (.if_icmp .eq (5), 3) := by decide +kernel
theorem d_La_law_489 : decode code 489 = .ok (.iconst 0, 1) := by decide +kernel
theorem d_La_law_490 : decode code 490 = .ok (.ireturn, 1) := by decide +kernel
theorem d_La_law_491 : decode code 491 = .ok (.iload 6, 2) := by decide +kernel
theorem d_La_law_493 : decode code 493 = .ok (.ifCond .ne (22), 3) := by decide +kernel
theorem d_La_law_496 : decode code 496 = .ok (.aload_n 3, 1) := by decide +kernel
theorem d_La_law_497 : decode code 497 = .ok (.iconst 0, 1) := by decide +kernel
theorem d_La_law_498 : decode code 498 = .ok (.laload, 1) := by decide +kernel
theorem d_La_law_499 : decode code 499 = .ok (.iload 7, 2) := by decide +kernel
theorem d_La_law_501 : decode code 501 = .ok (.ifCond .eq (7), 3) := by decide +kernel
theorem d_La_law_504 : decode code 504 = .ok (.lconst 1, 1) := by decide +kernel
theorem d_La_law_505 : decode code 505 = .ok (.goto (4), 3) := by decide +kernel
theorem d_La_law_508 : decode code 508 = .ok (.lconst 0, 1) := by decide +kernel
theorem d_La_law_509 : decode code 509 = .ok (.lcmp, 1) := by decide +kernel
theorem d_La_law_510 : decode code 510 = .ok (.ifCond .eq (5), 3) := by decide +kernel
theorem d_La_law_513 : decode code 513 = .ok (.iconst 0, 1) := by decide +kernel
theorem d_La_law_514 : decode code 514 = .ok (.ireturn, 1) := by decide +kernel
theorem d_La_law_515 : decode code 515 = .ok (.goto (684), 3) := by decide +kernel
theorem d_La_law_518 : decode code 518 = .ok (.aload_n 1, 1) := by decide +kernel
theorem d_La_law_519 : decode code 519 = .ok (.aload_n 0, 1) := by decide +kernel
theorem d_La_law_520 : decode code 520 = .ok (.iload 5, 2) := by decide +kernel
theorem d_La_law_522 : decode code 522 = .ok (.iconst 1, 1) := by decide +kernel
theorem d_La_law_523 : decode code 523 = .ok (.iadd, 1) := by decide +kernel
theorem d_La_law_524 : decode code 524 = .ok (.iaload, 1) := by decide +kernel
theorem d_La_law_525 : decode code 525 = .ok (.aload_n 3, 1) := by decide +kernel
theorem d_La_law_526 : decode code 526 = .ok (.invokestatic 98, 3) := by decide +kernel
theorem d_La_law_529 : decode code 529 = .ok (.istore 6, 2) := by decide +kernel
theorem d_La_law_531 : decode code 531 = .ok (.aload_n 2, 1) := by decide +kernel
theorem d_La_law_532 : decode code 532 = .ok (.aload_n 0, 1) := by decide +kernel
theorem d_La_law_533 : decode code 533 = .ok (.iload 5, 2) := by decide +kernel
theorem d_La_law_535 : decode code 535 = .ok (.iconst 1, 1) := by decide +kernel
theorem d_La_law_536 : decode code 536 = .ok (.iadd, 1) := by decide +kernel
theorem d_La_law_537 : decode code 537 = .ok (.iaload, 1) := by decide +kernel
theorem d_La_law_538 : decode code 538 = .ok (.invokevirtual 101, 3) := by decide +kernel
theorem d_La_law_541 : decode code 541 = .ok (.istore 7, 2) := by decide +kernel
theorem d_La_law_543 : decode code 543 = .ok (.aload_n 2, 1) := by decide +kernel
theorem d_La_law_544 : decode code 544 = .ok (.invokevirtual 76, 3) := by decide +kernel
theorem d_La_law_547 : decode code 547 = .ok (.iload 6, 2) := by decide +kernel
theorem d_La_law_549 : decode code 549 = .ok (.if_icmp .eq (5), 3) := by decide +kernel
theorem d_La_law_552 : decode code 552 = .ok (.iconst 0, 1) := by decide +kernel
theorem d_La_law_553 : decode code 553 = .ok (.ireturn, 1) := by decide +kernel
theorem d_La_law_554 : decode code 554 = .ok (.iload 6, 2) := by decide +kernel
theorem d_La_law_556 : decode code 556 = .ok (.ifCond .ne (22), 3) := by decide +kernel
theorem d_La_law_559 : decode code 559 = .ok (.aload_n 3, 1) := by decide +kernel
theorem d_La_law_560 : decode code 560 = .ok (.iconst 0, 1) := by decide +kernel
theorem d_La_law_561 : decode code 561 = .ok (.laload, 1) := by decide +kernel
theorem d_La_law_562 : decode code 562 = .ok (.iload 7, 2) := by decide +kernel
theorem d_La_law_564 : decode code 564 = .ok (.ifCond .eq (7), 3) := by decide +kernel
theorem d_La_law_567 : decode code 567 = .ok (.lconst 1, 1) := by decide +kernel
theorem d_La_law_568 : decode code 568 = .ok (.goto (4), 3) := by decide +kernel
theorem d_La_law_571 : decode code 571 = .ok (.lconst 0, 1) := by decide +kernel
theorem d_La_law_572 : decode code 572 = .ok (.lcmp, 1) := by decide +kernel
theorem d_La_law_573 : decode code 573 = .ok (.ifCond .eq (5), 3) := by decide +kernel
theorem d_La_law_576 : decode code 576 = .ok (.iconst 0, 1) := by decide +kernel
theorem d_La_law_577 : decode code 577 = .ok (.ireturn, 1) := by decide +kernel
theorem d_La_law_578 : decode code 578 = .ok (.goto (621), 3) := by decide +kernel
theorem d_La_law_581 : decode code 581 = .ok (.aload_n 1, 1) := by decide +kernel
theorem d_La_law_582 : decode code 582 = .ok (.aload_n 0, 1) := by decide +kernel
theorem d_La_law_583 : decode code 583 = .ok (.iload 5, 2) := by decide +kernel
theorem d_La_law_585 : decode code 585 = .ok (.iconst 1, 1) := by decide +kernel
theorem d_La_law_586 : decode code 586 = .ok (.iadd, 1) := by decide +kernel
theorem d_La_law_587 : decode code 587 = .ok (.iaload, 1) := by decide +kernel
theorem d_La_law_588 : decode code 588 = .ok (.aload_n 3, 1) := by decide +kernel
theorem d_La_law_589 : decode code 589 = .ok (.invokestatic 102, 3) := by decide +kernel
theorem d_La_law_592 : decode code 592 = .ok (.istore 6, 2) := by decide +kernel
theorem d_La_law_594 : decode code 594 = .ok (.aload_n 2, 1) := by decide +kernel
theorem d_La_law_595 : decode code 595 = .ok (.aload_n 0, 1) := by decide +kernel
theorem d_La_law_596 : decode code 596 = .ok (.iload 5, 2) := by decide +kernel
theorem d_La_law_598 : decode code 598 = .ok (.iconst 1, 1) := by decide +kernel
theorem d_La_law_599 : decode code 599 = .ok (.iadd, 1) := by decide +kernel
theorem d_La_law_600 : decode code 600 = .ok (.iaload, 1) := by decide +kernel
theorem d_La_law_601 : decode code 601 = .ok (.invokevirtual 104, 3) := by decide +kernel
theorem d_La_law_604 : decode code 604 = .ok (.istore 7, 2) := by decide +kernel
theorem d_La_law_606 : decode code 606 = .ok (.aload_n 2, 1) := by decide +kernel
theorem d_La_law_607 : decode code 607 = .ok (.invokevirtual 76, 3) := by decide +kernel
theorem d_La_law_610 : decode code 610 = .ok (.iload 6, 2) := by decide +kernel
theorem d_La_law_612 : decode code 612 = .ok (.if_icmp .eq (5), 3) := by decide +kernel
theorem d_La_law_615 : decode code 615 = .ok (.iconst 0, 1) := by decide +kernel
theorem d_La_law_616 : decode code 616 = .ok (.ireturn, 1) := by decide +kernel
theorem d_La_law_617 : decode code 617 = .ok (.iload 6, 2) := by decide +kernel
theorem d_La_law_619 : decode code 619 = .ok (.ifCond .ne (22), 3) := by decide +kernel
theorem d_La_law_622 : decode code 622 = .ok (.aload_n 3, 1) := by decide +kernel
theorem d_La_law_623 : decode code 623 = .ok (.iconst 0, 1) := by decide +kernel
theorem d_La_law_624 : decode code 624 = .ok (.laload, 1) := by decide +kernel
theorem d_La_law_625 : decode code 625 = .ok (.iload 7, 2) := by decide +kernel
theorem d_La_law_627 : decode code 627 = .ok (.ifCond .eq (7), 3) := by decide +kernel
theorem d_La_law_630 : decode code 630 = .ok (.lconst 1, 1) := by decide +kernel
theorem d_La_law_631 : decode code 631 = .ok (.goto (4), 3) := by decide +kernel
theorem d_La_law_634 : decode code 634 = .ok (.lconst 0, 1) := by decide +kernel
theorem d_La_law_635 : decode code 635 = .ok (.lcmp, 1) := by decide +kernel
theorem d_La_law_636 : decode code 636 = .ok (.ifCond .eq (5), 3) := by decide +kernel
theorem d_La_law_639 : decode code 639 = .ok (.iconst 0, 1) := by decide +kernel
theorem d_La_law_640 : decode code 640 = .ok (.ireturn, 1) := by decide +kernel
theorem d_La_law_641 : decode code 641 = .ok (.goto (558), 3) := by decide +kernel
theorem d_La_law_644 : decode code 644 = .ok (.aload_n 1, 1) := by decide +kernel
theorem d_La_law_645 : decode code 645 = .ok (.aload_n 0, 1) := by decide +kernel
theorem d_La_law_646 : decode code 646 = .ok (.iload 5, 2) := by decide +kernel
theorem d_La_law_648 : decode code 648 = .ok (.iconst 1, 1) := by decide +kernel
theorem d_La_law_649 : decode code 649 = .ok (.iadd, 1) := by decide +kernel
theorem d_La_law_650 : decode code 650 = .ok (.iaload, 1) := by decide +kernel
theorem d_La_law_651 : decode code 651 = .ok (.aload_n 0, 1) := by decide +kernel
theorem d_La_law_652 : decode code 652 = .ok (.iload 5, 2) := by decide +kernel
theorem d_La_law_654 : decode code 654 = .ok (.iconst 2, 1) := by decide +kernel
theorem d_La_law_655 : decode code 655 = .ok (.iadd, 1) := by decide +kernel
theorem d_La_law_656 : decode code 656 = .ok (.iaload, 1) := by decide +kernel
theorem d_La_law_657 : decode code 657 = .ok (.i2l, 1) := by decide +kernel
theorem d_La_law_658 : decode code 658 = .ok (.bipush (32), 2) := by decide +kernel
theorem d_La_law_660 : decode code 660 = .ok (.lshl, 1) := by decide +kernel
theorem d_La_law_661 : decode code 661 = .ok (.aload_n 0, 1) := by decide +kernel
theorem d_La_law_662 : decode code 662 = .ok (.iload 5, 2) := by decide +kernel
theorem d_La_law_664 : decode code 664 = .ok (.iconst 3, 1) := by decide +kernel
theorem d_La_law_665 : decode code 665 = .ok (.iadd, 1) := by decide +kernel
theorem d_La_law_666 : decode code 666 = .ok (.iaload, 1) := by decide +kernel
theorem d_La_law_667 : decode code 667 = .ok (.i2l, 1) := by decide +kernel
theorem d_La_law_668 : decode code 668 = .ok (.ldc2_w 105, 3) := by decide +kernel
theorem d_La_law_671 : decode code 671 = .ok (.land, 1) := by decide +kernel
theorem d_La_law_672 : decode code 672 = .ok (.lor, 1) := by decide +kernel
theorem d_La_law_673 : decode code 673 = .ok (.aload_n 0, 1) := by decide +kernel
theorem d_La_law_674 : decode code 674 = .ok (.iload 5, 2) := by decide +kernel
theorem d_La_law_676 : decode code 676 = .ok (.iconst 4, 1) := by decide +kernel
theorem d_La_law_677 : decode code 677 = .ok (.iadd, 1) := by decide +kernel
theorem d_La_law_678 : decode code 678 = .ok (.iaload, 1) := by decide +kernel
theorem d_La_law_679 : decode code 679 = .ok (.aload_n 3, 1) := by decide +kernel
theorem d_La_law_680 : decode code 680 = .ok (.invokestatic 107, 3) := by decide +kernel
theorem d_La_law_683 : decode code 683 = .ok (.istore 6, 2) := by decide +kernel
theorem d_La_law_685 : decode code 685 = .ok (.aload_n 2, 1) := by decide +kernel
theorem d_La_law_686 : decode code 686 = .ok (.aload_n 0, 1) := by decide +kernel
theorem d_La_law_687 : decode code 687 = .ok (.iload 5, 2) := by decide +kernel
theorem d_La_law_689 : decode code 689 = .ok (.iconst 1, 1) := by decide +kernel
theorem d_La_law_690 : decode code 690 = .ok (.iadd, 1) := by decide +kernel
theorem d_La_law_691 : decode code 691 = .ok (.iaload, 1) := by decide +kernel
theorem d_La_law_692 : decode code 692 = .ok (.aload_n 0, 1) := by decide +kernel
theorem d_La_law_693 : decode code 693 = .ok (.iload 5, 2) := by decide +kernel
theorem d_La_law_695 : decode code 695 = .ok (.iconst 2, 1) := by decide +kernel
theorem d_La_law_696 : decode code 696 = .ok (.iadd, 1) := by decide +kernel
theorem d_La_law_697 : decode code 697 = .ok (.iaload, 1) := by decide +kernel
theorem d_La_law_698 : decode code 698 = .ok (.i2l, 1) := by decide +kernel
theorem d_La_law_699 : decode code 699 = .ok (.bipush (32), 2) := by decide +kernel
theorem d_La_law_701 : decode code 701 = .ok (.lshl, 1) := by decide +kernel
theorem d_La_law_702 : decode code 702 = .ok (.aload_n 0, 1) := by decide +kernel
theorem d_La_law_703 : decode code 703 = .ok (.iload 5, 2) := by decide +kernel
theorem d_La_law_705 : decode code 705 = .ok (.iconst 3, 1) := by decide +kernel
theorem d_La_law_706 : decode code 706 = .ok (.iadd, 1) := by decide +kernel
theorem d_La_law_707 : decode code 707 = .ok (.iaload, 1) := by decide +kernel
theorem d_La_law_708 : decode code 708 = .ok (.i2l, 1) := by decide +kernel
theorem d_La_law_709 : decode code 709 = .ok (.ldc2_w 105, 3) := by decide +kernel
theorem d_La_law_712 : decode code 712 = .ok (.land, 1) := by decide +kernel
theorem d_La_law_713 : decode code 713 = .ok (.lor, 1) := by decide +kernel
theorem d_La_law_714 : decode code 714 = .ok (.aload_n 0, 1) := by decide +kernel
theorem d_La_law_715 : decode code 715 = .ok (.iload 5, 2) := by decide +kernel
theorem d_La_law_717 : decode code 717 = .ok (.iconst 4, 1) := by decide +kernel
theorem d_La_law_718 : decode code 718 = .ok (.iadd, 1) := by decide +kernel
theorem d_La_law_719 : decode code 719 = .ok (.iaload, 1) := by decide +kernel
theorem d_La_law_720 : decode code 720 = .ok (.invokevirtual 110, 3) := by decide +kernel
theorem d_La_law_723 : decode code 723 = .ok (.istore 7, 2) := by decide +kernel
theorem d_La_law_725 : decode code 725 = .ok (.aload_n 2, 1) := by decide +kernel
theorem d_La_law_726 : decode code 726 = .ok (.invokevirtual 76, 3) := by decide +kernel
theorem d_La_law_729 : decode code 729 = .ok (.iload 6, 2) := by decide +kernel
theorem d_La_law_731 : decode code 731 = .ok (.if_icmp .eq (5), 3) := by decide +kernel
theorem d_La_law_734 : decode code 734 = .ok (.iconst 0, 1) := by decide +kernel
theorem d_La_law_735 : decode code 735 = .ok (.ireturn, 1) := by decide +kernel
theorem d_La_law_736 : decode code 736 = .ok (.iload 6, 2) := by decide +kernel
theorem d_La_law_738 : decode code 738 = .ok (.ifCond .ne (22), 3) := by decide +kernel
theorem d_La_law_741 : decode code 741 = .ok (.aload_n 3, 1) := by decide +kernel
theorem d_La_law_742 : decode code 742 = .ok (.iconst 0, 1) := by decide +kernel
theorem d_La_law_743 : decode code 743 = .ok (.laload, 1) := by decide +kernel
theorem d_La_law_744 : decode code 744 = .ok (.iload 7, 2) := by decide +kernel
theorem d_La_law_746 : decode code 746 = .ok (.ifCond .eq (7), 3) := by decide +kernel
theorem d_La_law_749 : decode code 749 = .ok (.lconst 1, 1) := by decide +kernel
theorem d_La_law_750 : decode code 750 = .ok (.goto (4), 3) := by decide +kernel
theorem d_La_law_753 : decode code 753 = .ok (.lconst 0, 1) := by decide +kernel
theorem d_La_law_754 : decode code 754 = .ok (.lcmp, 1) := by decide +kernel
theorem d_La_law_755 : decode code 755 = .ok (.ifCond .eq (5), 3) := by decide +kernel
theorem d_La_law_758 : decode code 758 = .ok (.iconst 0, 1) := by decide +kernel
theorem d_La_law_759 : decode code 759 = .ok (.ireturn, 1) := by decide +kernel
theorem d_La_law_760 : decode code 760 = .ok (.goto (439), 3) := by decide +kernel
theorem d_La_law_763 : decode code 763 = .ok (.aload_n 1, 1) := by decide +kernel
theorem d_La_law_764 : decode code 764 = .ok (.aload_n 0, 1) := by decide +kernel
theorem d_La_law_765 : decode code 765 = .ok (.iload 5, 2) := by decide +kernel
theorem d_La_law_767 : decode code 767 = .ok (.iconst 1, 1) := by decide +kernel
theorem d_La_law_768 : decode code 768 = .ok (.iadd, 1) := by decide +kernel
theorem d_La_law_769 : decode code 769 = .ok (.iaload, 1) := by decide +kernel
theorem d_La_law_770 : decode code 770 = .ok (.aload_n 3, 1) := by decide +kernel
theorem d_La_law_771 : decode code 771 = .ok (.invokestatic 111, 3) := by decide +kernel
theorem d_La_law_774 : decode code 774 = .ok (.istore 6, 2) := by decide +kernel
theorem d_La_law_776 : decode code 776 = .ok (.aload_n 2, 1) := by decide +kernel
theorem d_La_law_777 : decode code 777 = .ok (.aload_n 0, 1) := by decide +kernel
theorem d_La_law_778 : decode code 778 = .ok (.iload 5, 2) := by decide +kernel
theorem d_La_law_780 : decode code 780 = .ok (.iconst 1, 1) := by decide +kernel
theorem d_La_law_781 : decode code 781 = .ok (.iadd, 1) := by decide +kernel
theorem d_La_law_782 : decode code 782 = .ok (.iaload, 1) := by decide +kernel
theorem d_La_law_783 : decode code 783 = .ok (.invokevirtual 113, 3) := by decide +kernel
theorem d_La_law_786 : decode code 786 = .ok (.istore 7, 2) := by decide +kernel
theorem d_La_law_788 : decode code 788 = .ok (.aload_n 2, 1) := by decide +kernel
theorem d_La_law_789 : decode code 789 = .ok (.invokevirtual 76, 3) := by decide +kernel
theorem d_La_law_792 : decode code 792 = .ok (.iload 6, 2) := by decide +kernel
theorem d_La_law_794 : decode code 794 = .ok (.if_icmp .eq (5), 3) := by decide +kernel
theorem d_La_law_797 : decode code 797 = .ok (.iconst 0, 1) := by decide +kernel
theorem d_La_law_798 : decode code 798 = .ok (.ireturn, 1) := by decide +kernel
theorem d_La_law_799 : decode code 799 = .ok (.iload 6, 2) := by decide +kernel
theorem d_La_law_801 : decode code 801 = .ok (.ifCond .ne (15), 3) := by decide +kernel
theorem d_La_law_804 : decode code 804 = .ok (.aload_n 3, 1) := by decide +kernel
theorem d_La_law_805 : decode code 805 = .ok (.iconst 0, 1) := by decide +kernel
theorem d_La_law_806 : decode code 806 = .ok (.laload, 1) := by decide +kernel
theorem d_La_law_807 : decode code 807 = .ok (.iload 7, 2) := by decide +kernel
theorem d_La_law_809 : decode code 809 = .ok (.i2l, 1) := by decide +kernel
theorem d_La_law_810 : decode code 810 = .ok (.lcmp, 1) := by decide +kernel
theorem d_La_law_811 : decode code 811 = .ok (.ifCond .eq (5), 3) := by decide +kernel
theorem d_La_law_814 : decode code 814 = .ok (.iconst 0, 1) := by decide +kernel
theorem d_La_law_815 : decode code 815 = .ok (.ireturn, 1) := by decide +kernel
theorem d_La_law_816 : decode code 816 = .ok (.goto (383), 3) := by decide +kernel
theorem d_La_law_819 : decode code 819 = .ok (.aload_n 1, 1) := by decide +kernel
theorem d_La_law_820 : decode code 820 = .ok (.invokevirtual 114, 3) := by decide +kernel
theorem d_La_law_823 : decode code 823 = .ok (.aload_n 2, 1) := by decide +kernel
theorem d_La_law_824 : decode code 824 = .ok (.invokevirtual 117, 3) := by decide +kernel
theorem d_La_law_827 : decode code 827 = .ok (.if_icmp .eq (372), 3) := by decide +kernel
theorem d_La_law_830 : decode code 830 = .ok (.iconst 0, 1) := by decide +kernel
theorem d_La_law_831 : decode code 831 = .ok (.ireturn, 1) := by decide +kernel
theorem d_La_law_832 : decode code 832 = .ok (.aload_n 1, 1) := by decide +kernel
theorem d_La_law_833 : decode code 833 = .ok (.aload_n 0, 1) := by decide +kernel
theorem d_La_law_834 : decode code 834 = .ok (.iload 5, 2) := by decide +kernel
theorem d_La_law_836 : decode code 836 = .ok (.iconst 1, 1) := by decide +kernel
theorem d_La_law_837 : decode code 837 = .ok (.iadd, 1) := by decide +kernel
theorem d_La_law_838 : decode code 838 = .ok (.iaload, 1) := by decide +kernel
theorem d_La_law_839 : decode code 839 = .ok (.aload_n 0, 1) := by decide +kernel
theorem d_La_law_840 : decode code 840 = .ok (.iload 5, 2) := by decide +kernel
theorem d_La_law_842 : decode code 842 = .ok (.iconst 2, 1) := by decide +kernel
theorem d_La_law_843 : decode code 843 = .ok (.iadd, 1) := by decide +kernel
theorem d_La_law_844 : decode code 844 = .ok (.iaload, 1) := by decide +kernel
theorem d_La_law_845 : decode code 845 = .ok (.invokevirtual 118, 3) := by decide +kernel
theorem d_La_law_848 : decode code 848 = .ok (.aload_n 2, 1) := by decide +kernel
theorem d_La_law_849 : decode code 849 = .ok (.aload_n 0, 1) := by decide +kernel
theorem d_La_law_850 : decode code 850 = .ok (.iload 5, 2) := by decide +kernel
theorem d_La_law_852 : decode code 852 = .ok (.iconst 1, 1) := by decide +kernel
theorem d_La_law_853 : decode code 853 = .ok (.iadd, 1) := by decide +kernel
theorem d_La_law_854 : decode code 854 = .ok (.iaload, 1) := by decide +kernel
theorem d_La_law_855 : decode code 855 = .ok (.aload_n 0, 1) := by decide +kernel
theorem d_La_law_856 : decode code 856 = .ok (.iload 5, 2) := by decide +kernel
theorem d_La_law_858 : decode code 858 = .ok (.iconst 2, 1) := by decide +kernel
theorem d_La_law_859 : decode code 859 = .ok (.iadd, 1) := by decide +kernel
theorem d_La_law_860 : decode code 860 = .ok (.iaload, 1) := by decide +kernel
theorem d_La_law_861 : decode code 861 = .ok (.invokevirtual 122, 3) := by decide +kernel
theorem d_La_law_864 : decode code 864 = .ok (.if_icmp .eq (335), 3) := by decide +kernel
theorem d_La_law_867 : decode code 867 = .ok (.iconst 0, 1) := by decide +kernel
theorem d_La_law_868 : decode code 868 = .ok (.ireturn, 1) := by decide +kernel
theorem d_La_law_869 : decode code 869 = .ok (.aload_n 1, 1) := by decide +kernel
theorem d_La_law_870 : decode code 870 = .ok (.aload_n 0, 1) := by decide +kernel
theorem d_La_law_871 : decode code 871 = .ok (.iload 5, 2) := by decide +kernel
theorem d_La_law_873 : decode code 873 = .ok (.iconst 1, 1) := by decide +kernel
theorem d_La_law_874 : decode code 874 = .ok (.iadd, 1) := by decide +kernel
theorem d_La_law_875 : decode code 875 = .ok (.iaload, 1) := by decide +kernel
theorem d_La_law_876 : decode code 876 = .ok (.aload_n 0, 1) := by decide +kernel
theorem d_La_law_877 : decode code 877 = .ok (.iload 5, 2) := by decide +kernel
theorem d_La_law_879 : decode code 879 = .ok (.iconst 2, 1) := by decide +kernel
theorem d_La_law_880 : decode code 880 = .ok (.iadd, 1) := by decide +kernel
theorem d_La_law_881 : decode code 881 = .ok (.iaload, 1) := by decide +kernel
theorem d_La_law_882 : decode code 882 = .ok (.aload_n 0, 1) := by decide +kernel
theorem d_La_law_883 : decode code 883 = .ok (.iload 5, 2) := by decide +kernel
theorem d_La_law_885 : decode code 885 = .ok (.iconst 3, 1) := by decide +kernel
theorem d_La_law_886 : decode code 886 = .ok (.iadd, 1) := by decide +kernel
theorem d_La_law_887 : decode code 887 = .ok (.iaload, 1) := by decide +kernel
theorem d_La_law_888 : decode code 888 = .ok (.aload_n 3, 1) := by decide +kernel
theorem d_La_law_889 : decode code 889 = .ok (.invokestatic 123, 3) := by decide +kernel
theorem d_La_law_892 : decode code 892 = .ok (.istore 6, 2) := by decide +kernel
theorem d_La_law_894 : decode code 894 = .ok (.aload_n 2, 1) := by decide +kernel
theorem d_La_law_895 : decode code 895 = .ok (.aload_n 0, 1) := by decide +kernel
theorem d_La_law_896 : decode code 896 = .ok (.iload 5, 2) := by decide +kernel
theorem d_La_law_898 : decode code 898 = .ok (.iconst 1, 1) := by decide +kernel
theorem d_La_law_899 : decode code 899 = .ok (.iadd, 1) := by decide +kernel
theorem d_La_law_900 : decode code 900 = .ok (.iaload, 1) := by decide +kernel
theorem d_La_law_901 : decode code 901 = .ok (.aload_n 0, 1) := by decide +kernel
theorem d_La_law_902 : decode code 902 = .ok (.iload 5, 2) := by decide +kernel
theorem d_La_law_904 : decode code 904 = .ok (.iconst 2, 1) := by decide +kernel
theorem d_La_law_905 : decode code 905 = .ok (.iadd, 1) := by decide +kernel
theorem d_La_law_906 : decode code 906 = .ok (.iaload, 1) := by decide +kernel
theorem d_La_law_907 : decode code 907 = .ok (.aload_n 0, 1) := by decide +kernel
theorem d_La_law_908 : decode code 908 = .ok (.iload 5, 2) := by decide +kernel
theorem d_La_law_910 : decode code 910 = .ok (.iconst 3, 1) := by decide +kernel
theorem d_La_law_911 : decode code 911 = .ok (.iadd, 1) := by decide +kernel
theorem d_La_law_912 : decode code 912 = .ok (.iaload, 1) := by decide +kernel
theorem d_La_law_913 : decode code 913 = .ok (.invokevirtual 126, 3) := by decide +kernel
theorem d_La_law_916 : decode code 916 = .ok (.istore 7, 2) := by decide +kernel
theorem d_La_law_918 : decode code 918 = .ok (.aload_n 2, 1) := by decide +kernel
theorem d_La_law_919 : decode code 919 = .ok (.invokevirtual 76, 3) := by decide +kernel
theorem d_La_law_922 : decode code 922 = .ok (.iload 6, 2) := by decide +kernel
theorem d_La_law_924 : decode code 924 = .ok (.if_icmp .eq (5), 3) := by decide +kernel
theorem d_La_law_927 : decode code 927 = .ok (.iconst 0, 1) := by decide +kernel
theorem d_La_law_928 : decode code 928 = .ok (.ireturn, 1) := by decide +kernel
theorem d_La_law_929 : decode code 929 = .ok (.iload 6, 2) := by decide +kernel
theorem d_La_law_931 : decode code 931 = .ok (.ifCond .ne (15), 3) := by decide +kernel
theorem d_La_law_934 : decode code 934 = .ok (.aload_n 3, 1) := by decide +kernel
theorem d_La_law_935 : decode code 935 = .ok (.iconst 0, 1) := by decide +kernel
theorem d_La_law_936 : decode code 936 = .ok (.laload, 1) := by decide +kernel
theorem d_La_law_937 : decode code 937 = .ok (.iload 7, 2) := by decide +kernel
theorem d_La_law_939 : decode code 939 = .ok (.i2l, 1) := by decide +kernel
theorem d_La_law_940 : decode code 940 = .ok (.lcmp, 1) := by decide +kernel
theorem d_La_law_941 : decode code 941 = .ok (.ifCond .eq (5), 3) := by decide +kernel
theorem d_La_law_944 : decode code 944 = .ok (.iconst 0, 1) := by decide +kernel
theorem d_La_law_945 : decode code 945 = .ok (.ireturn, 1) := by decide +kernel
theorem d_La_law_946 : decode code 946 = .ok (.goto (253), 3) := by decide +kernel
theorem d_La_law_949 : decode code 949 = .ok (.aload_n 1, 1) := by decide +kernel
theorem d_La_law_950 : decode code 950 = .ok (.aload_n 0, 1) := by decide +kernel
theorem d_La_law_951 : decode code 951 = .ok (.iload 5, 2) := by decide +kernel
theorem d_La_law_953 : decode code 953 = .ok (.iconst 1, 1) := by decide +kernel
theorem d_La_law_954 : decode code 954 = .ok (.iadd, 1) := by decide +kernel
theorem d_La_law_955 : decode code 955 = .ok (.iaload, 1) := by decide +kernel
theorem d_La_law_956 : decode code 956 = .ok (.aload_n 0, 1) := by decide +kernel
theorem d_La_law_957 : decode code 957 = .ok (.iload 5, 2) := by decide +kernel
theorem d_La_law_959 : decode code 959 = .ok (.iconst 2, 1) := by decide +kernel
theorem d_La_law_960 : decode code 960 = .ok (.iadd, 1) := by decide +kernel
theorem d_La_law_961 : decode code 961 = .ok (.iaload, 1) := by decide +kernel
theorem d_La_law_962 : decode code 962 = .ok (.aload_n 0, 1) := by decide +kernel
theorem d_La_law_963 : decode code 963 = .ok (.iload 5, 2) := by decide +kernel
theorem d_La_law_965 : decode code 965 = .ok (.iconst 3, 1) := by decide +kernel
theorem d_La_law_966 : decode code 966 = .ok (.iadd, 1) := by decide +kernel
theorem d_La_law_967 : decode code 967 = .ok (.iaload, 1) := by decide +kernel
theorem d_La_law_968 : decode code 968 = .ok (.aload_n 3, 1) := by decide +kernel
theorem d_La_law_969 : decode code 969 = .ok (.invokestatic 127, 3) := by decide +kernel
theorem d_La_law_972 : decode code 972 = .ok (.istore 6, 2) := by decide +kernel
theorem d_La_law_974 : decode code 974 = .ok (.aload_n 2, 1) := by decide +kernel
theorem d_La_law_975 : decode code 975 = .ok (.aload_n 0, 1) := by decide +kernel
theorem d_La_law_976 : decode code 976 = .ok (.iload 5, 2) := by decide +kernel
theorem d_La_law_978 : decode code 978 = .ok (.iconst 1, 1) := by decide +kernel
theorem d_La_law_979 : decode code 979 = .ok (.iadd, 1) := by decide +kernel
theorem d_La_law_980 : decode code 980 = .ok (.iaload, 1) := by decide +kernel
theorem d_La_law_981 : decode code 981 = .ok (.aload_n 0, 1) := by decide +kernel
theorem d_La_law_982 : decode code 982 = .ok (.iload 5, 2) := by decide +kernel
theorem d_La_law_984 : decode code 984 = .ok (.iconst 2, 1) := by decide +kernel
theorem d_La_law_985 : decode code 985 = .ok (.iadd, 1) := by decide +kernel
theorem d_La_law_986 : decode code 986 = .ok (.iaload, 1) := by decide +kernel
theorem d_La_law_987 : decode code 987 = .ok (.aload_n 0, 1) := by decide +kernel
theorem d_La_law_988 : decode code 988 = .ok (.iload 5, 2) := by decide +kernel
theorem d_La_law_990 : decode code 990 = .ok (.iconst 3, 1) := by decide +kernel
theorem d_La_law_991 : decode code 991 = .ok (.iadd, 1) := by decide +kernel
theorem d_La_law_992 : decode code 992 = .ok (.iaload, 1) := by decide +kernel
theorem d_La_law_993 : decode code 993 = .ok (.invokevirtual 129, 3) := by decide +kernel
theorem d_La_law_996 : decode code 996 = .ok (.istore 7, 2) := by decide +kernel
theorem d_La_law_998 : decode code 998 = .ok (.aload_n 2, 1) := by decide +kernel
theorem d_La_law_999 : decode code 999 = .ok (.invokevirtual 76, 3) := by decide +kernel
theorem d_La_law_1002 : decode code 1002 = .ok (.iload 6, 2) := by decide +kernel
theorem d_La_law_1004 : decode code 1004 = .ok (.if_icmp .eq (5), 3) := by decide +kernel
theorem d_La_law_1007 : decode code 1007 = .ok (.iconst 0, 1) := by decide +kernel
theorem d_La_law_1008 : decode code 1008 = .ok (.ireturn, 1) := by decide +kernel
theorem d_La_law_1009 : decode code 1009 = .ok (.iload 6, 2) := by decide +kernel
theorem d_La_law_1011 : decode code 1011 = .ok (.ifCond .ne (15), 3) := by decide +kernel
theorem d_La_law_1014 : decode code 1014 = .ok (.aload_n 3, 1) := by decide +kernel
theorem d_La_law_1015 : decode code 1015 = .ok (.iconst 0, 1) := by decide +kernel
theorem d_La_law_1016 : decode code 1016 = .ok (.laload, 1) := by decide +kernel
theorem d_La_law_1017 : decode code 1017 = .ok (.iload 7, 2) := by decide +kernel
theorem d_La_law_1019 : decode code 1019 = .ok (.i2l, 1) := by decide +kernel
theorem d_La_law_1020 : decode code 1020 = .ok (.lcmp, 1) := by decide +kernel
theorem d_La_law_1021 : decode code 1021 = .ok (.ifCond .eq (5), 3) := by decide +kernel
theorem d_La_law_1024 : decode code 1024 = .ok (.iconst 0, 1) := by decide +kernel
theorem d_La_law_1025 : decode code 1025 = .ok (.ireturn, 1) := by decide +kernel
theorem d_La_law_1026 : decode code 1026 = .ok (.goto (173), 3) := by decide +kernel
theorem d_La_law_1029 : decode code 1029 = .ok (.aload_n 1, 1) := by decide +kernel
theorem d_La_law_1030 : decode code 1030 = .ok (.aload_n 0, 1) := by decide +kernel
theorem d_La_law_1031 : decode code 1031 = .ok (.iload 5, 2) := by decide +kernel
theorem d_La_law_1033 : decode code 1033 = .ok (.iconst 1, 1) := by decide +kernel
theorem d_La_law_1034 : decode code 1034 = .ok (.iadd, 1) := by decide +kernel
theorem d_La_law_1035 : decode code 1035 = .ok (.iaload, 1) := by decide +kernel
theorem d_La_law_1036 : decode code 1036 = .ok (.aload_n 0, 1) := by decide +kernel
theorem d_La_law_1037 : decode code 1037 = .ok (.iload 5, 2) := by decide +kernel
theorem d_La_law_1039 : decode code 1039 = .ok (.iconst 2, 1) := by decide +kernel
theorem d_La_law_1040 : decode code 1040 = .ok (.iadd, 1) := by decide +kernel
theorem d_La_law_1041 : decode code 1041 = .ok (.iaload, 1) := by decide +kernel
theorem d_La_law_1042 : decode code 1042 = .ok (.aload_n 0, 1) := by decide +kernel
theorem d_La_law_1043 : decode code 1043 = .ok (.iload 5, 2) := by decide +kernel
theorem d_La_law_1045 : decode code 1045 = .ok (.iconst 3, 1) := by decide +kernel
theorem d_La_law_1046 : decode code 1046 = .ok (.iadd, 1) := by decide +kernel
theorem d_La_law_1047 : decode code 1047 = .ok (.iaload, 1) := by decide +kernel
theorem d_La_law_1048 : decode code 1048 = .ok (.aload 4, 2) := by decide +kernel
theorem d_La_law_1050 : decode code 1050 = .ok (.invokestatic 130, 3) := by decide +kernel
theorem d_La_law_1053 : decode code 1053 = .ok (.istore 6, 2) := by decide +kernel
theorem d_La_law_1055 : decode code 1055 = .ok (.aload_n 2, 1) := by decide +kernel
theorem d_La_law_1056 : decode code 1056 = .ok (.aload_n 0, 1) := by decide +kernel
theorem d_La_law_1057 : decode code 1057 = .ok (.iload 5, 2) := by decide +kernel
theorem d_La_law_1059 : decode code 1059 = .ok (.iconst 1, 1) := by decide +kernel
theorem d_La_law_1060 : decode code 1060 = .ok (.iadd, 1) := by decide +kernel
theorem d_La_law_1061 : decode code 1061 = .ok (.iaload, 1) := by decide +kernel
theorem d_La_law_1062 : decode code 1062 = .ok (.aload_n 0, 1) := by decide +kernel
theorem d_La_law_1063 : decode code 1063 = .ok (.iload 5, 2) := by decide +kernel
theorem d_La_law_1065 : decode code 1065 = .ok (.iconst 2, 1) := by decide +kernel
theorem d_La_law_1066 : decode code 1066 = .ok (.iadd, 1) := by decide +kernel
theorem d_La_law_1067 : decode code 1067 = .ok (.iaload, 1) := by decide +kernel
theorem d_La_law_1068 : decode code 1068 = .ok (.aload_n 0, 1) := by decide +kernel
theorem d_La_law_1069 : decode code 1069 = .ok (.iload 5, 2) := by decide +kernel
theorem d_La_law_1071 : decode code 1071 = .ok (.iconst 3, 1) := by decide +kernel
theorem d_La_law_1072 : decode code 1072 = .ok (.iadd, 1) := by decide +kernel
theorem d_La_law_1073 : decode code 1073 = .ok (.iaload, 1) := by decide +kernel
theorem d_La_law_1074 : decode code 1074 = .ok (.invokevirtual 133, 3) := by decide +kernel
theorem d_La_law_1077 : decode code 1077 = .ok (.dstore 7, 2) := by decide +kernel
theorem d_La_law_1079 : decode code 1079 = .ok (.aload_n 2, 1) := by decide +kernel
theorem d_La_law_1080 : decode code 1080 = .ok (.invokevirtual 76, 3) := by decide +kernel
theorem d_La_law_1083 : decode code 1083 = .ok (.iload 6, 2) := by decide +kernel
theorem d_La_law_1085 : decode code 1085 = .ok (.if_icmp .eq (5), 3) := by decide +kernel
theorem d_La_law_1088 : decode code 1088 = .ok (.iconst 0, 1) := by decide +kernel
theorem d_La_law_1089 : decode code 1089 = .ok (.ireturn, 1) := by decide +kernel
theorem d_La_law_1090 : decode code 1090 = .ok (.iload 6, 2) := by decide +kernel
theorem d_La_law_1092 : decode code 1092 = .ok (.ifCond .ne (35), 3) := by decide +kernel
theorem d_La_law_1095 : decode code 1095 = .ok (.aload 4, 2) := by decide +kernel
theorem d_La_law_1097 : decode code 1097 = .ok (.iconst 0, 1) := by decide +kernel
theorem d_La_law_1098 : decode code 1098 = .ok (.daload, 1) := by decide +kernel
theorem d_La_law_1099 : decode code 1099 = .ok (.dload 7, 2) := by decide +kernel
theorem d_La_law_1101 : decode code 1101 = .ok (.dcmp .l, 1) := by decide +kernel
theorem d_La_law_1102 : decode code 1102 = .ok (.ifCond .eq (25), 3) := by decide +kernel
theorem d_La_law_1105 : decode code 1105 = .ok (.aload 4, 2) := by decide +kernel
theorem d_La_law_1107 : decode code 1107 = .ok (.iconst 0, 1) := by decide +kernel
theorem d_La_law_1108 : decode code 1108 = .ok (.daload, 1) := by decide +kernel
theorem d_La_law_1109 : decode code 1109 = .ok (.aload 4, 2) := by decide +kernel
theorem d_La_law_1111 : decode code 1111 = .ok (.iconst 0, 1) := by decide +kernel
theorem d_La_law_1112 : decode code 1112 = .ok (.daload, 1) := by decide +kernel
theorem d_La_law_1113 : decode code 1113 = .ok (.dcmp .l, 1) := by decide +kernel
theorem d_La_law_1114 : decode code 1114 = .ok (.ifCond .eq (11), 3) := by decide +kernel
theorem d_La_law_1117 : decode code 1117 = .ok (.dload 7, 2) := by decide +kernel
theorem d_La_law_1119 : decode code 1119 = .ok (.dload 7, 2) := by decide +kernel
theorem d_La_law_1121 : decode code 1121 = .ok (.dcmp .l, 1) := by decide +kernel
theorem d_La_law_1122 : decode code 1122 = .ok (.ifCond .ne (5), 3) := by decide +kernel
theorem d_La_law_1125 : decode code 1125 = .ok (.iconst 0, 1) := by decide +kernel
theorem d_La_law_1126 : decode code 1126 = .ok (.ireturn, 1) := by decide +kernel
theorem d_La_law_1127 : decode code 1127 = .ok (.goto (72), 3) := by decide +kernel
theorem d_La_law_1130 : decode code 1130 = .ok (.aload_n 1, 1) := by decide +kernel
theorem d_La_law_1131 : decode code 1131 = .ok (.aload_n 0, 1) := by decide +kernel
theorem d_La_law_1132 : decode code 1132 = .ok (.iload 5, 2) := by decide +kernel
theorem d_La_law_1134 : decode code 1134 = .ok (.iconst 1, 1) := by decide +kernel
theorem d_La_law_1135 : decode code 1135 = .ok (.iadd, 1) := by decide +kernel
theorem d_La_law_1136 : decode code 1136 = .ok (.iaload, 1) := by decide +kernel
theorem d_La_law_1137 : decode code 1137 = .ok (.aload_n 3, 1) := by decide +kernel
theorem d_La_law_1138 : decode code 1138 = .ok (.invokestatic 134, 3) := by decide +kernel
theorem d_La_law_1141 : decode code 1141 = .ok (.istore 6, 2) := by decide +kernel
theorem d_La_law_1143 : decode code 1143 = .ok (.aload_n 2, 1) := by decide +kernel
theorem d_La_law_1144 : decode code 1144 = .ok (.aload_n 0, 1) := by decide +kernel
theorem d_La_law_1145 : decode code 1145 = .ok (.iload 5, 2) := by decide +kernel
theorem d_La_law_1147 : decode code 1147 = .ok (.iconst 1, 1) := by decide +kernel
theorem d_La_law_1148 : decode code 1148 = .ok (.iadd, 1) := by decide +kernel
theorem d_La_law_1149 : decode code 1149 = .ok (.iaload, 1) := by decide +kernel
theorem d_La_law_1150 : decode code 1150 = .ok (.invokevirtual 136, 3) := by decide +kernel
theorem d_La_law_1153 : decode code 1153 = .ok (.istore 7, 2) := by decide +kernel
theorem d_La_law_1155 : decode code 1155 = .ok (.aload_n 2, 1) := by decide +kernel
theorem d_La_law_1156 : decode code 1156 = .ok (.invokevirtual 76, 3) := by decide +kernel
theorem d_La_law_1159 : decode code 1159 = .ok (.iload 6, 2) := by decide +kernel
theorem d_La_law_1161 : decode code 1161 = .ok (.if_icmp .eq (5), 3) := by decide +kernel
theorem d_La_law_1164 : decode code 1164 = .ok (.iconst 0, 1) := by decide +kernel
theorem d_La_law_1165 : decode code 1165 = .ok (.ireturn, 1) := by decide +kernel
theorem d_La_law_1166 : decode code 1166 = .ok (.iload 6, 2) := by decide +kernel
theorem d_La_law_1168 : decode code 1168 = .ok (.ifCond .ne (15), 3) := by decide +kernel
theorem d_La_law_1171 : decode code 1171 = .ok (.aload_n 3, 1) := by decide +kernel
theorem d_La_law_1172 : decode code 1172 = .ok (.iconst 0, 1) := by decide +kernel
theorem d_La_law_1173 : decode code 1173 = .ok (.laload, 1) := by decide +kernel
theorem d_La_law_1174 : decode code 1174 = .ok (.iload 7, 2) := by decide +kernel
theorem d_La_law_1176 : decode code 1176 = .ok (.i2l, 1) := by decide +kernel
theorem d_La_law_1177 : decode code 1177 = .ok (.lcmp, 1) := by decide +kernel
theorem d_La_law_1178 : decode code 1178 = .ok (.ifCond .eq (5), 3) := by decide +kernel
theorem d_La_law_1181 : decode code 1181 = .ok (.iconst 0, 1) := by decide +kernel
theorem d_La_law_1182 : decode code 1182 = .ok (.ireturn, 1) := by decide +kernel
theorem d_La_law_1183 : decode code 1183 = .ok (.goto (16), 3) := by decide +kernel
theorem d_La_law_1186 : decode code 1186 = .ok (.aload_n 1, 1) := by decide +kernel
theorem d_La_law_1187 : decode code 1187 = .ok (.invokevirtual 137, 3) := by decide +kernel
theorem d_La_law_1190 : decode code 1190 = .ok (.aload_n 2, 1) := by decide +kernel
theorem d_La_law_1191 : decode code 1191 = .ok (.invokevirtual 140, 3) := by decide +kernel
theorem d_La_law_1194 : decode code 1194 = .ok (.if_icmp .eq (5), 3) := by decide +kernel
theorem d_La_law_1197 : decode code 1197 = .ok (.iconst 0, 1) := by decide +kernel
theorem d_La_law_1198 : decode code 1198 = .ok (.ireturn, 1) := by decide +kernel
theorem d_La_law_1199 : decode code 1199 = .ok (.iinc 5 (5), 3) := by decide +kernel
theorem d_La_law_1202 : decode code 1202 = .ok (.goto (-1174), 3) := by decide +kernel
theorem d_La_law_1205 : decode code 1205 = .ok (.iconst 1, 1) := by decide +kernel
theorem d_La_law_1206 : decode code 1206 = .ok (.ireturn, 1) := by decide +kernel
