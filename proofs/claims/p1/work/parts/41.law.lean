theorem d_law_0 : decode code 0 = .ok (.new 7, 3) := by decide +kernel
theorem d_law_3 : decode code 3 = .ok (.dup, 1) := by decide +kernel
theorem d_law_4 : decode code 4 = .ok (.invokespecial 9, 3) := by decide +kernel
theorem d_law_7 : decode code 7 = .ok (.astore_n 1, 1) := by decide +kernel
theorem d_law_8 : decode code 8 = .ok (.new 10, 3) := by decide +kernel
theorem d_law_11 : decode code 11 = .ok (.dup, 1) := by decide +kernel
theorem d_law_12 : decode code 12 = .ok (.invokespecial 12, 3) := by decide +kernel
theorem d_law_15 : decode code 15 = .ok (.astore_n 2, 1) := by decide +kernel
theorem d_law_16 : decode code 16 = .ok (.iconst 0, 1) := by decide +kernel
theorem d_law_17 : decode code 17 = .ok (.istore_n 3, 1) := by decide +kernel
theorem d_law_18 : decode code 18 = .ok (.iload_n 3, 1) := by decide +kernel
theorem d_law_19 : decode code 19 = .ok (.aload_n 0, 1) := by decide +kernel
theorem d_law_20 : decode code 20 = .ok (.arraylength, 1) := by decide +kernel
theorem d_law_21 : decode code 21 = .ok (.iconst 3, 1) := by decide +kernel
theorem d_law_22 : decode code 22 = .ok (.isub, 1) := by decide +kernel
theorem d_law_23 : decode code 23 = .ok (.if_icmp .gt 467, 3) := by decide +kernel
theorem d_law_26 : decode code 26 = .ok (.aload_n 0, 1) := by decide +kernel
theorem d_law_27 : decode code 27 = .ok (.iload_n 3, 1) := by decide +kernel
theorem d_law_28 : decode code 28 = .ok (.iaload, 1) := by decide +kernel
theorem d_law_29 : decode code 29 = .ok (.bipush 15, 2) := by decide +kernel
theorem d_law_31 : decode code 31 = .ok (.iand, 1) := by decide +kernel
theorem d_law_32 : decode code 32 = .ok (.tableswitch 452 0 15 #[80, 105, 130, 141, 154, 177, 200, 223, 256, 269, 282, 317, 340, 373, 406, 419], 80) := by decide +kernel
theorem d_law_112 : decode code 112 = .ok (.aload_n 1, 1) := by decide +kernel
theorem d_law_113 : decode code 113 = .ok (.aload_n 0, 1) := by decide +kernel
theorem d_law_114 : decode code 114 = .ok (.iload_n 3, 1) := by decide +kernel
theorem d_law_115 : decode code 115 = .ok (.iconst 1, 1) := by decide +kernel
theorem d_law_116 : decode code 116 = .ok (.iadd, 1) := by decide +kernel
theorem d_law_117 : decode code 117 = .ok (.iaload, 1) := by decide +kernel
theorem d_law_118 : decode code 118 = .ok (.i2c, 1) := by decide +kernel
theorem d_law_119 : decode code 119 = .ok (.invokevirtual 13, 3) := by decide +kernel
theorem d_law_122 : decode code 122 = .ok (.aload_n 2, 1) := by decide +kernel
theorem d_law_123 : decode code 123 = .ok (.aload_n 0, 1) := by decide +kernel
theorem d_law_124 : decode code 124 = .ok (.iload_n 3, 1) := by decide +kernel
theorem d_law_125 : decode code 125 = .ok (.iconst 1, 1) := by decide +kernel
theorem d_law_126 : decode code 126 = .ok (.iadd, 1) := by decide +kernel
theorem d_law_127 : decode code 127 = .ok (.iaload, 1) := by decide +kernel
theorem d_law_128 : decode code 128 = .ok (.i2c, 1) := by decide +kernel
theorem d_law_129 : decode code 129 = .ok (.invokevirtual 17, 3) := by decide +kernel
theorem d_law_132 : decode code 132 = .ok (.if_icmp .eq 352, 3) := by decide +kernel
theorem d_law_135 : decode code 135 = .ok (.iconst 0, 1) := by decide +kernel
theorem d_law_136 : decode code 136 = .ok (.ireturn, 1) := by decide +kernel
theorem d_law_137 : decode code 137 = .ok (.aload_n 1, 1) := by decide +kernel
theorem d_law_138 : decode code 138 = .ok (.aload_n 0, 1) := by decide +kernel
theorem d_law_139 : decode code 139 = .ok (.iload_n 3, 1) := by decide +kernel
theorem d_law_140 : decode code 140 = .ok (.iconst 1, 1) := by decide +kernel
theorem d_law_141 : decode code 141 = .ok (.iadd, 1) := by decide +kernel
theorem d_law_142 : decode code 142 = .ok (.iaload, 1) := by decide +kernel
theorem d_law_143 : decode code 143 = .ok (.i2c, 1) := by decide +kernel
theorem d_law_144 : decode code 144 = .ok (.invokevirtual 18, 3) := by decide +kernel
theorem d_law_147 : decode code 147 = .ok (.aload_n 2, 1) := by decide +kernel
theorem d_law_148 : decode code 148 = .ok (.aload_n 0, 1) := by decide +kernel
theorem d_law_149 : decode code 149 = .ok (.iload_n 3, 1) := by decide +kernel
theorem d_law_150 : decode code 150 = .ok (.iconst 1, 1) := by decide +kernel
theorem d_law_151 : decode code 151 = .ok (.iadd, 1) := by decide +kernel
theorem d_law_152 : decode code 152 = .ok (.iaload, 1) := by decide +kernel
theorem d_law_153 : decode code 153 = .ok (.i2c, 1) := by decide +kernel
theorem d_law_154 : decode code 154 = .ok (.invokevirtual 21, 3) := by decide +kernel
theorem d_law_157 : decode code 157 = .ok (.if_icmp .eq 327, 3) := by decide +kernel
theorem d_law_160 : decode code 160 = .ok (.iconst 0, 1) := by decide +kernel
theorem d_law_161 : decode code 161 = .ok (.ireturn, 1) := by decide +kernel
theorem d_law_162 : decode code 162 = .ok (.aload_n 1, 1) := by decide +kernel
theorem d_law_163 : decode code 163 = .ok (.invokevirtual 22, 3) := by decide +kernel
theorem d_law_166 : decode code 166 = .ok (.aload_n 2, 1) := by decide +kernel
theorem d_law_167 : decode code 167 = .ok (.invokevirtual 25, 3) := by decide +kernel
theorem d_law_170 : decode code 170 = .ok (.goto 314, 3) := by decide +kernel
theorem d_law_173 : decode code 173 = .ok (.aload_n 1, 1) := by decide +kernel
theorem d_law_174 : decode code 174 = .ok (.invokevirtual 26, 3) := by decide +kernel
theorem d_law_177 : decode code 177 = .ok (.aload_n 2, 1) := by decide +kernel
theorem d_law_178 : decode code 178 = .ok (.invokevirtual 30, 3) := by decide +kernel
theorem d_law_181 : decode code 181 = .ok (.if_icmp .eq 303, 3) := by decide +kernel
theorem d_law_184 : decode code 184 = .ok (.iconst 0, 1) := by decide +kernel
theorem d_law_185 : decode code 185 = .ok (.ireturn, 1) := by decide +kernel
theorem d_law_186 : decode code 186 = .ok (.aload_n 1, 1) := by decide +kernel
theorem d_law_187 : decode code 187 = .ok (.aload_n 0, 1) := by decide +kernel
theorem d_law_188 : decode code 188 = .ok (.iload_n 3, 1) := by decide +kernel
theorem d_law_189 : decode code 189 = .ok (.iconst 1, 1) := by decide +kernel
theorem d_law_190 : decode code 190 = .ok (.iadd, 1) := by decide +kernel
theorem d_law_191 : decode code 191 = .ok (.iaload, 1) := by decide +kernel
theorem d_law_192 : decode code 192 = .ok (.invokevirtual 31, 3) := by decide +kernel
theorem d_law_195 : decode code 195 = .ok (.aload_n 2, 1) := by decide +kernel
theorem d_law_196 : decode code 196 = .ok (.aload_n 0, 1) := by decide +kernel
theorem d_law_197 : decode code 197 = .ok (.iload_n 3, 1) := by decide +kernel
theorem d_law_198 : decode code 198 = .ok (.iconst 1, 1) := by decide +kernel
theorem d_law_199 : decode code 199 = .ok (.iadd, 1) := by decide +kernel
theorem d_law_200 : decode code 200 = .ok (.iaload, 1) := by decide +kernel
theorem d_law_201 : decode code 201 = .ok (.invokevirtual 35, 3) := by decide +kernel
theorem d_law_204 : decode code 204 = .ok (.if_icmp .eq 280, 3) := by decide +kernel
theorem d_law_207 : decode code 207 = .ok (.iconst 0, 1) := by decide +kernel
theorem d_law_208 : decode code 208 = .ok (.ireturn, 1) := by decide +kernel
theorem d_law_209 : decode code 209 = .ok (.aload_n 1, 1) := by decide +kernel
theorem d_law_210 : decode code 210 = .ok (.aload_n 0, 1) := by decide +kernel
theorem d_law_211 : decode code 211 = .ok (.iload_n 3, 1) := by decide +kernel
theorem d_law_212 : decode code 212 = .ok (.iconst 1, 1) := by decide +kernel
theorem d_law_213 : decode code 213 = .ok (.iadd, 1) := by decide +kernel
theorem d_law_214 : decode code 214 = .ok (.iaload, 1) := by decide +kernel
theorem d_law_215 : decode code 215 = .ok (.invokevirtual 36, 3) := by decide +kernel
theorem d_law_218 : decode code 218 = .ok (.aload_n 2, 1) := by decide +kernel
theorem d_law_219 : decode code 219 = .ok (.aload_n 0, 1) := by decide +kernel
theorem d_law_220 : decode code 220 = .ok (.iload_n 3, 1) := by decide +kernel
theorem d_law_221 : decode code 221 = .ok (.iconst 1, 1) := by decide +kernel
theorem d_law_222 : decode code 222 = .ok (.iadd, 1) := by decide +kernel
theorem d_law_223 : decode code 223 = .ok (.iaload, 1) := by decide +kernel
theorem d_law_224 : decode code 224 = .ok (.invokevirtual 39, 3) := by decide +kernel
theorem d_law_227 : decode code 227 = .ok (.if_icmp .eq 257, 3) := by decide +kernel
theorem d_law_230 : decode code 230 = .ok (.iconst 0, 1) := by decide +kernel
theorem d_law_231 : decode code 231 = .ok (.ireturn, 1) := by decide +kernel
theorem d_law_232 : decode code 232 = .ok (.aload_n 1, 1) := by decide +kernel
theorem d_law_233 : decode code 233 = .ok (.aload_n 0, 1) := by decide +kernel
theorem d_law_234 : decode code 234 = .ok (.iload_n 3, 1) := by decide +kernel
theorem d_law_235 : decode code 235 = .ok (.iconst 1, 1) := by decide +kernel
theorem d_law_236 : decode code 236 = .ok (.iadd, 1) := by decide +kernel
theorem d_law_237 : decode code 237 = .ok (.iaload, 1) := by decide +kernel
theorem d_law_238 : decode code 238 = .ok (.invokevirtual 40, 3) := by decide +kernel
theorem d_law_241 : decode code 241 = .ok (.aload_n 2, 1) := by decide +kernel
theorem d_law_242 : decode code 242 = .ok (.aload_n 0, 1) := by decide +kernel
theorem d_law_243 : decode code 243 = .ok (.iload_n 3, 1) := by decide +kernel
theorem d_law_244 : decode code 244 = .ok (.iconst 1, 1) := by decide +kernel
theorem d_law_245 : decode code 245 = .ok (.iadd, 1) := by decide +kernel
theorem d_law_246 : decode code 246 = .ok (.iaload, 1) := by decide +kernel
theorem d_law_247 : decode code 247 = .ok (.invokevirtual 43, 3) := by decide +kernel
theorem d_law_250 : decode code 250 = .ok (.if_icmp .eq 234, 3) := by decide +kernel
theorem d_law_253 : decode code 253 = .ok (.iconst 0, 1) := by decide +kernel
theorem d_law_254 : decode code 254 = .ok (.ireturn, 1) := by decide +kernel
theorem d_law_255 : decode code 255 = .ok (.aload_n 1, 1) := by decide +kernel
theorem d_law_256 : decode code 256 = .ok (.aload_n 0, 1) := by decide +kernel
theorem d_law_257 : decode code 257 = .ok (.iload_n 3, 1) := by decide +kernel
theorem d_law_258 : decode code 258 = .ok (.iconst 1, 1) := by decide +kernel
theorem d_law_259 : decode code 259 = .ok (.iadd, 1) := by decide +kernel
theorem d_law_260 : decode code 260 = .ok (.iaload, 1) := by decide +kernel
theorem d_law_261 : decode code 261 = .ok (.aload_n 0, 1) := by decide +kernel
theorem d_law_262 : decode code 262 = .ok (.iload_n 3, 1) := by decide +kernel
theorem d_law_263 : decode code 263 = .ok (.iconst 2, 1) := by decide +kernel
theorem d_law_264 : decode code 264 = .ok (.iadd, 1) := by decide +kernel
theorem d_law_265 : decode code 265 = .ok (.iaload, 1) := by decide +kernel
theorem d_law_266 : decode code 266 = .ok (.invokevirtual 44, 3) := by decide +kernel
theorem d_law_269 : decode code 269 = .ok (.aload_n 2, 1) := by decide +kernel
theorem d_law_270 : decode code 270 = .ok (.aload_n 0, 1) := by decide +kernel
theorem d_law_271 : decode code 271 = .ok (.iload_n 3, 1) := by decide +kernel
theorem d_law_272 : decode code 272 = .ok (.iconst 1, 1) := by decide +kernel
theorem d_law_273 : decode code 273 = .ok (.iadd, 1) := by decide +kernel
theorem d_law_274 : decode code 274 = .ok (.iaload, 1) := by decide +kernel
theorem d_law_275 : decode code 275 = .ok (.aload_n 0, 1) := by decide +kernel
theorem d_law_276 : decode code 276 = .ok (.iload_n 3, 1) := by decide +kernel
theorem d_law_277 : decode code 277 = .ok (.iconst 2, 1) := by decide +kernel
theorem d_law_278 : decode code 278 = .ok (.iadd, 1) := by decide +kernel
theorem d_law_279 : decode code 279 = .ok (.iaload, 1) := by decide +kernel
theorem d_law_280 : decode code 280 = .ok (.invokevirtual 48, 3) := by decide +kernel
theorem d_law_283 : decode code 283 = .ok (.if_icmp .eq 201, 3) := by decide +kernel
theorem d_law_286 : decode code 286 = .ok (.iconst 0, 1) := by decide +kernel
theorem d_law_287 : decode code 287 = .ok (.ireturn, 1) := by decide +kernel
theorem d_law_288 : decode code 288 = .ok (.aload_n 1, 1) := by decide +kernel
theorem d_law_289 : decode code 289 = .ok (.invokevirtual 49, 3) := by decide +kernel
theorem d_law_292 : decode code 292 = .ok (.aload_n 2, 1) := by decide +kernel
theorem d_law_293 : decode code 293 = .ok (.invokevirtual 52, 3) := by decide +kernel
theorem d_law_296 : decode code 296 = .ok (.if_icmp .eq 188, 3) := by decide +kernel
theorem d_law_299 : decode code 299 = .ok (.iconst 0, 1) := by decide +kernel
theorem d_law_300 : decode code 300 = .ok (.ireturn, 1) := by decide +kernel
theorem d_law_301 : decode code 301 = .ok (.aload_n 1, 1) := by decide +kernel
theorem d_law_302 : decode code 302 = .ok (.invokevirtual 53, 3) := by decide +kernel
theorem d_law_305 : decode code 305 = .ok (.aload_n 2, 1) := by decide +kernel
theorem d_law_306 : decode code 306 = .ok (.invokevirtual 56, 3) := by decide +kernel
theorem d_law_309 : decode code 309 = .ok (.if_icmp .eq 175, 3) := by decide +kernel
theorem d_law_312 : decode code 312 = .ok (.iconst 0, 1) := by decide +kernel
theorem d_law_313 : decode code 313 = .ok (.ireturn, 1) := by decide +kernel
theorem d_law_314 : decode code 314 = .ok (.aload_n 1, 1) := by decide +kernel
theorem d_law_315 : decode code 315 = .ok (.aload_n 0, 1) := by decide +kernel
theorem d_law_316 : decode code 316 = .ok (.iload_n 3, 1) := by decide +kernel
theorem d_law_317 : decode code 317 = .ok (.iconst 1, 1) := by decide +kernel
theorem d_law_318 : decode code 318 = .ok (.iadd, 1) := by decide +kernel
theorem d_law_319 : decode code 319 = .ok (.iaload, 1) := by decide +kernel
theorem d_law_320 : decode code 320 = .ok (.aload_n 0, 1) := by decide +kernel
theorem d_law_321 : decode code 321 = .ok (.iload_n 3, 1) := by decide +kernel
theorem d_law_322 : decode code 322 = .ok (.iconst 2, 1) := by decide +kernel
theorem d_law_323 : decode code 323 = .ok (.iadd, 1) := by decide +kernel
theorem d_law_324 : decode code 324 = .ok (.iaload, 1) := by decide +kernel
theorem d_law_325 : decode code 325 = .ok (.i2c, 1) := by decide +kernel
theorem d_law_326 : decode code 326 = .ok (.invokevirtual 57, 3) := by decide +kernel
theorem d_law_329 : decode code 329 = .ok (.aload_n 2, 1) := by decide +kernel
theorem d_law_330 : decode code 330 = .ok (.aload_n 0, 1) := by decide +kernel
theorem d_law_331 : decode code 331 = .ok (.iload_n 3, 1) := by decide +kernel
theorem d_law_332 : decode code 332 = .ok (.iconst 1, 1) := by decide +kernel
theorem d_law_333 : decode code 333 = .ok (.iadd, 1) := by decide +kernel
theorem d_law_334 : decode code 334 = .ok (.iaload, 1) := by decide +kernel
theorem d_law_335 : decode code 335 = .ok (.aload_n 0, 1) := by decide +kernel
theorem d_law_336 : decode code 336 = .ok (.iload_n 3, 1) := by decide +kernel
theorem d_law_337 : decode code 337 = .ok (.iconst 2, 1) := by decide +kernel
theorem d_law_338 : decode code 338 = .ok (.iadd, 1) := by decide +kernel
theorem d_law_339 : decode code 339 = .ok (.iaload, 1) := by decide +kernel
theorem d_law_340 : decode code 340 = .ok (.i2c, 1) := by decide +kernel
theorem d_law_341 : decode code 341 = .ok (.invokevirtual 61, 3) := by decide +kernel
theorem d_law_344 : decode code 344 = .ok (.if_icmp .eq 140, 3) := by decide +kernel
theorem d_law_347 : decode code 347 = .ok (.iconst 0, 1) := by decide +kernel
theorem d_law_348 : decode code 348 = .ok (.ireturn, 1) := by decide +kernel
theorem d_law_349 : decode code 349 = .ok (.aload_n 1, 1) := by decide +kernel
theorem d_law_350 : decode code 350 = .ok (.aload_n 0, 1) := by decide +kernel
theorem d_law_351 : decode code 351 = .ok (.iload_n 3, 1) := by decide +kernel
theorem d_law_352 : decode code 352 = .ok (.iconst 1, 1) := by decide +kernel
theorem d_law_353 : decode code 353 = .ok (.iadd, 1) := by decide +kernel
theorem d_law_354 : decode code 354 = .ok (.iaload, 1) := by decide +kernel
theorem d_law_355 : decode code 355 = .ok (.invokevirtual 62, 3) := by decide +kernel
theorem d_law_358 : decode code 358 = .ok (.aload_n 2, 1) := by decide +kernel
theorem d_law_359 : decode code 359 = .ok (.aload_n 0, 1) := by decide +kernel
theorem d_law_360 : decode code 360 = .ok (.iload_n 3, 1) := by decide +kernel
theorem d_law_361 : decode code 361 = .ok (.iconst 1, 1) := by decide +kernel
theorem d_law_362 : decode code 362 = .ok (.iadd, 1) := by decide +kernel
theorem d_law_363 : decode code 363 = .ok (.iaload, 1) := by decide +kernel
theorem d_law_364 : decode code 364 = .ok (.invokevirtual 65, 3) := by decide +kernel
theorem d_law_367 : decode code 367 = .ok (.if_icmp .eq 117, 3) := by decide +kernel
theorem d_law_370 : decode code 370 = .ok (.iconst 0, 1) := by decide +kernel
theorem d_law_371 : decode code 371 = .ok (.ireturn, 1) := by decide +kernel
theorem d_law_372 : decode code 372 = .ok (.aload_n 1, 1) := by decide +kernel
theorem d_law_373 : decode code 373 = .ok (.aload_n 0, 1) := by decide +kernel
theorem d_law_374 : decode code 374 = .ok (.iload_n 3, 1) := by decide +kernel
theorem d_law_375 : decode code 375 = .ok (.iconst 1, 1) := by decide +kernel
theorem d_law_376 : decode code 376 = .ok (.iadd, 1) := by decide +kernel
theorem d_law_377 : decode code 377 = .ok (.iaload, 1) := by decide +kernel
theorem d_law_378 : decode code 378 = .ok (.aload_n 0, 1) := by decide +kernel
theorem d_law_379 : decode code 379 = .ok (.iload_n 3, 1) := by decide +kernel
theorem d_law_380 : decode code 380 = .ok (.iconst 2, 1) := by decide +kernel
theorem d_law_381 : decode code 381 = .ok (.iadd, 1) := by decide +kernel
theorem d_law_382 : decode code 382 = .ok (.iaload, 1) := by decide +kernel
theorem d_law_383 : decode code 383 = .ok (.invokevirtual 66, 3) := by decide +kernel
theorem d_law_386 : decode code 386 = .ok (.aload_n 2, 1) := by decide +kernel
theorem d_law_387 : decode code 387 = .ok (.aload_n 0, 1) := by decide +kernel
theorem d_law_388 : decode code 388 = .ok (.iload_n 3, 1) := by decide +kernel
theorem d_law_389 : decode code 389 = .ok (.iconst 1, 1) := by decide +kernel
theorem d_law_390 : decode code 390 = .ok (.iadd, 1) := by decide +kernel
theorem d_law_391 : decode code 391 = .ok (.iaload, 1) := by decide +kernel
theorem d_law_392 : decode code 392 = .ok (.aload_n 0, 1) := by decide +kernel
theorem d_law_393 : decode code 393 = .ok (.iload_n 3, 1) := by decide +kernel
theorem d_law_394 : decode code 394 = .ok (.iconst 2, 1) := by decide +kernel
theorem d_law_395 : decode code 395 = .ok (.iadd, 1) := by decide +kernel
theorem d_law_396 : decode code 396 = .ok (.iaload, 1) := by decide +kernel
theorem d_law_397 : decode code 397 = .ok (.invokevirtual 69, 3) := by decide +kernel
theorem d_law_400 : decode code 400 = .ok (.if_icmp .eq 84, 3) := by decide +kernel
theorem d_law_403 : decode code 403 = .ok (.iconst 0, 1) := by decide +kernel
theorem d_law_404 : decode code 404 = .ok (.ireturn, 1) := by decide +kernel
theorem d_law_405 : decode code 405 = .ok (.aload_n 1, 1) := by decide +kernel
theorem d_law_406 : decode code 406 = .ok (.aload_n 0, 1) := by decide +kernel
theorem d_law_407 : decode code 407 = .ok (.iload_n 3, 1) := by decide +kernel
theorem d_law_408 : decode code 408 = .ok (.iconst 1, 1) := by decide +kernel
theorem d_law_409 : decode code 409 = .ok (.iadd, 1) := by decide +kernel
theorem d_law_410 : decode code 410 = .ok (.iaload, 1) := by decide +kernel
theorem d_law_411 : decode code 411 = .ok (.aload_n 0, 1) := by decide +kernel
theorem d_law_412 : decode code 412 = .ok (.iload_n 3, 1) := by decide +kernel
theorem d_law_413 : decode code 413 = .ok (.iconst 2, 1) := by decide +kernel
theorem d_law_414 : decode code 414 = .ok (.iadd, 1) := by decide +kernel
theorem d_law_415 : decode code 415 = .ok (.iaload, 1) := by decide +kernel
theorem d_law_416 : decode code 416 = .ok (.invokevirtual 70, 3) := by decide +kernel
theorem d_law_419 : decode code 419 = .ok (.aload_n 2, 1) := by decide +kernel
theorem d_law_420 : decode code 420 = .ok (.aload_n 0, 1) := by decide +kernel
theorem d_law_421 : decode code 421 = .ok (.iload_n 3, 1) := by decide +kernel
theorem d_law_422 : decode code 422 = .ok (.iconst 1, 1) := by decide +kernel
theorem d_law_423 : decode code 423 = .ok (.iadd, 1) := by decide +kernel
theorem d_law_424 : decode code 424 = .ok (.iaload, 1) := by decide +kernel
theorem d_law_425 : decode code 425 = .ok (.aload_n 0, 1) := by decide +kernel
theorem d_law_426 : decode code 426 = .ok (.iload_n 3, 1) := by decide +kernel
theorem d_law_427 : decode code 427 = .ok (.iconst 2, 1) := by decide +kernel
theorem d_law_428 : decode code 428 = .ok (.iadd, 1) := by decide +kernel
theorem d_law_429 : decode code 429 = .ok (.iaload, 1) := by decide +kernel
theorem d_law_430 : decode code 430 = .ok (.invokevirtual 73, 3) := by decide +kernel
theorem d_law_433 : decode code 433 = .ok (.if_icmp .eq 51, 3) := by decide +kernel
theorem d_law_436 : decode code 436 = .ok (.iconst 0, 1) := by decide +kernel
theorem d_law_437 : decode code 437 = .ok (.ireturn, 1) := by decide +kernel
theorem d_law_438 : decode code 438 = .ok (.aload_n 1, 1) := by decide +kernel
theorem d_law_439 : decode code 439 = .ok (.invokevirtual 74, 3) := by decide +kernel
theorem d_law_442 : decode code 442 = .ok (.aload_n 2, 1) := by decide +kernel
theorem d_law_443 : decode code 443 = .ok (.invokevirtual 77, 3) := by decide +kernel
theorem d_law_446 : decode code 446 = .ok (.if_icmp .eq 38, 3) := by decide +kernel
theorem d_law_449 : decode code 449 = .ok (.iconst 0, 1) := by decide +kernel
theorem d_law_450 : decode code 450 = .ok (.ireturn, 1) := by decide +kernel
theorem d_law_451 : decode code 451 = .ok (.aload_n 1, 1) := by decide +kernel
theorem d_law_452 : decode code 452 = .ok (.aload_n 0, 1) := by decide +kernel
theorem d_law_453 : decode code 453 = .ok (.iload_n 3, 1) := by decide +kernel
theorem d_law_454 : decode code 454 = .ok (.iconst 1, 1) := by decide +kernel
theorem d_law_455 : decode code 455 = .ok (.iadd, 1) := by decide +kernel
theorem d_law_456 : decode code 456 = .ok (.iaload, 1) := by decide +kernel
theorem d_law_457 : decode code 457 = .ok (.aload_n 0, 1) := by decide +kernel
theorem d_law_458 : decode code 458 = .ok (.iload_n 3, 1) := by decide +kernel
theorem d_law_459 : decode code 459 = .ok (.iconst 2, 1) := by decide +kernel
theorem d_law_460 : decode code 460 = .ok (.iadd, 1) := by decide +kernel
theorem d_law_461 : decode code 461 = .ok (.iaload, 1) := by decide +kernel
theorem d_law_462 : decode code 462 = .ok (.invokevirtual 78, 3) := by decide +kernel
theorem d_law_465 : decode code 465 = .ok (.aload_n 2, 1) := by decide +kernel
theorem d_law_466 : decode code 466 = .ok (.aload_n 0, 1) := by decide +kernel
theorem d_law_467 : decode code 467 = .ok (.iload_n 3, 1) := by decide +kernel
theorem d_law_468 : decode code 468 = .ok (.iconst 1, 1) := by decide +kernel
theorem d_law_469 : decode code 469 = .ok (.iadd, 1) := by decide +kernel
theorem d_law_470 : decode code 470 = .ok (.iaload, 1) := by decide +kernel
theorem d_law_471 : decode code 471 = .ok (.aload_n 0, 1) := by decide +kernel
theorem d_law_472 : decode code 472 = .ok (.iload_n 3, 1) := by decide +kernel
theorem d_law_473 : decode code 473 = .ok (.iconst 2, 1) := by decide +kernel
theorem d_law_474 : decode code 474 = .ok (.iadd, 1) := by decide +kernel
theorem d_law_475 : decode code 475 = .ok (.iaload, 1) := by decide +kernel
theorem d_law_476 : decode code 476 = .ok (.invokevirtual 81, 3) := by decide +kernel
theorem d_law_479 : decode code 479 = .ok (.if_icmp .eq 5, 3) := by decide +kernel
theorem d_law_482 : decode code 482 = .ok (.iconst 0, 1) := by decide +kernel
theorem d_law_483 : decode code 483 = .ok (.ireturn, 1) := by decide +kernel
theorem d_law_484 : decode code 484 = .ok (.iinc 3 3, 3) := by decide +kernel
theorem d_law_487 : decode code 487 = .ok (.goto (-469), 3) := by decide +kernel
theorem d_law_490 : decode code 490 = .ok (.iconst 1, 1) := by decide +kernel
theorem d_law_491 : decode code 491 = .ok (.ireturn, 1) := by decide +kernel
theorem law_cmp {Ls k : Nat} (hL : Ls ≤ 1536) (hk : 3 * k ≤ Ls) : nI Ls - 3 < nI (3 * k) ↔ Ls < 3 * k + 3 := by
  rw [Int32.lt_iff_toInt_lt, show (3 : Int32) = nI 3 from rfl, pk_sub_toInt (by omega) (by omega), nI_toInt (by omega)]
  omega
theorem law_end {Ls k : Nat} (hL : Ls ≤ 1536) (hk : 3 * k ≤ Ls + 3) : nI Ls - 3 < nI (3 * k) ↔ Ls < 3 * k + 3 := by
  rw [Int32.lt_iff_toInt_lt, show (3 : Int32) = nI 3 from rfl, pk_sub_toInt (by omega) (by omega), nI_toInt (by omega)]
  omega
set_option maxRecDepth 100000 in
set_option maxHeartbeats 8000000 in
theorem law_loop {p : Program} {l : Launch} {e : Env} {s : State} {m : MethodId} {args : Array Value} {below : List Frame} {meth : Method} {c : Code} {D : va_G} {dA : Nat → ClassId} {bx bm cs sl b0 Ls : Nat} {xs : Nat → Int32} {Q : State → Prop} {adK adV : Nat → Nat} (hx : p.tables.exec = Jvm.exec) (hb : c.code = code) (hml : c.maxLocals = 4) (hown : s.vm.findClass "PlainPageLaw" = some m.cls) (hts : ∀ w ∈ lw_g, w.before args s = true) (hK : va_K D vwCl (tysX dA) s) (hs : qX adK adV 367 bx s) (hbx : s.heap.size ≤ bx) (hbm : bx + 367 ≤ bm) (hX : va_X b0 Ls xs s s.heap) (hbl : b0 < s.heap.size) (hL : Ls ≤ 1536) (hcs : cs ≤ room_1.cells) (hsl : sl ≤ room_1.slots) (Inv : Nat → qM → qM → Prop) (hop : ∀ (k j : Nat) (Mx Mm : qM), 3 * k + 3 ≤ Ls → j < 16 → xs (3 * k) &&& 15 = nI j → Inv k Mx Mm → qOp j (xs (3 * k + 1)) (xs (3 * k + 2)) Mx Mm (Inv (k + 1))) (hend : ∀ (Mx Mm : qM) (L : List (Nat × qV)), QJ p l e room_1 s m args below meth c (qB s.heap.size) 0 4 cs sl Q (qWL D dA bx bm Mx Mm) qM0 491 L [qi 1]) : ∀ (n k : Nat) (Mx Mm : qM), 3 * k ≤ Ls + 3 → Ls < 3 * k + 3 * n → Inv k Mx Mm → QJ p l e room_1 s m args below meth c (qB s.heap.size) 0 4 cs sl Q (qWL D dA bx bm Mx Mm) qM0 18 [(0, qa b0), (1, qa bx), (2, qa bm), (3, qi (nI (3 * k)))] [] := by
  intro n
  induction n with
  | zero =>
    intro k Mx Mm h1 h2 hI
    refine qj_iload_n hx hb d_law_18 rfl 3 rfl ?_
    refine qj_aloadA_n hx hb d_law_19 rfl 0 rfl ?_
    refine ql_len hx hb hX hbl d_law_20 ?_
    refine qj_iconst (v := 3) hx hb d_law_21 (by decide) ?_
    refine qj_isub hx hb d_law_22 ?_
    refine qj_icmp_gt (tgt := 490) hx hb d_law_23 (by decide) (fun _ => ?_) (fun h => absurd ((law_end hL h1).mpr (by omega)) h)
    refine qj_iconst (v := 1) hx hb d_law_490 (by decide) ?_
    exact hend _ _ _
  | succ n ih =>
    intro k Mx Mm h1 h2 hI
    refine qj_iload_n hx hb d_law_18 rfl 3 rfl ?_
    refine qj_aloadA_n hx hb d_law_19 rfl 0 rfl ?_
    refine ql_len hx hb hX hbl d_law_20 ?_
    refine qj_iconst (v := 3) hx hb d_law_21 (by decide) ?_
    refine qj_isub hx hb d_law_22 ?_
    refine qj_icmp_gt (tgt := 490) hx hb d_law_23 (by decide) (fun _ => ?_) (fun hc => ?_)
    · refine qj_iconst (v := 1) hx hb d_law_490 (by decide) ?_
      exact hend _ _ _
    have h3 : 3 * k + 3 ≤ Ls := by
      have h4 : ¬ Ls < 3 * k + 3 := fun z => hc ((law_end hL h1).mpr z)
      omega
    refine qj_aloadA_n hx hb d_law_26 rfl 0 rfl ?_
    refine qj_iload_n hx hb d_law_27 rfl 3 rfl ?_
    refine ql_ld (j := 3 * k) hx hb hX hbl (by omega) (by omega) rfl d_law_28 ?_
    refine qj_bipush (v := 15) hx hb d_law_29 (by decide) ?_
    refine qj_iand hx hb d_law_31 ?_
    have hnx : ∀ Mx1 Mm1, Inv (k + 1) Mx1 Mm1 → QJ p l e room_1 s m args below meth c (qB s.heap.size) 0 4 cs sl Q (qWL D dA bx bm Mx1 Mm1) qM0 484 [(0, qa b0), (1, qa bx), (2, qa bm), (3, qi (nI (3 * k)))] [] := by
      intro Mx1 Mm1 h
      refine qj_iinc (j := 3) (v := nI (3 * (k + 1))) hx hb d_law_484 rfl (by rw [show Int32.ofInt 3 = nI 3 from rfl, nI_add]; rfl) (by decide) rfl ?_
      refine qj_goto (tgt := 18) hx hb d_law_487 (by decide) ?_
      refine qj_sub [1, 2, 3, 0] rfl ?_
      exact ih (k + 1) Mx1 Mm1 (by omega) (by omega) h
    obtain ⟨j, hj, ej⟩ := pk_andE (xs (3 * k)) (m := 15) 4 (by decide)
    have hq := hop k j Mx Mm h3 hj ej hI
    rcases (show j = 0 ∨ j = 1 ∨ j = 2 ∨ j = 3 ∨ j = 4 ∨ j = 5 ∨ j = 6 ∨ j = 7 ∨ j = 8 ∨ j = 9 ∨ j = 10 ∨ j = 11 ∨ j = 12 ∨ j = 13 ∨ j = 14 ∨ j = 15 by omega) with rfl | rfl | rfl | rfl | rfl | rfl | rfl | rfl | rfl | rfl | rfl | rfl | rfl | rfl | rfl | rfl
    · refine qj_tableIn (off := 80) (tgt := 112) hx hb d_law_32 (by rw [ej]; decide) (by rw [ej]; decide) (by rw [ej] <;> rfl) (by decide) ?_
      obtain ⟨r, Mx1, Mm1, e1, e2, hI1⟩ := hq
      refine qj_aloadA_n hx hb d_law_112 rfl 1 rfl ?_
      refine qj_aloadA_n hx hb d_law_113 rfl 0 rfl ?_
      refine qj_iload_n hx hb d_law_114 rfl 3 rfl ?_
      refine qj_iconst (v := 1) hx hb d_law_115 (by decide) ?_
      refine qj_iadd hx hb d_law_116 ?_
      refine ql_ld (j := 3 * k + 1) hx hb hX hbl (by omega) (by omega) (nI_add (3 * k) 1) d_law_117 ?_
      refine qj_i2c hx hb d_law_118 ?_
      refine ql_Xi (is := [((xs (3 * k + 1)).toUInt32 % 65536).toInt32]) (st := []) hx hb hml hown hts hK hs hbx hbm (c_Pg_html (((xs (3 * k + 1)).toUInt32 % 65536).toInt32) Mx _ e1) ⟨(callB_of 1 hts (q_good tn_0) rfl rfl rfl (hts _ tw_4) (hts _ tn_1) (by decide +kernel) ⟨by decide, by decide⟩), (hts _ tn_2), (hts _ tn_3)⟩ rfl rfl (Nat.le_of_ble_eq_true rfl) hcs hsl d_law_119 ?_
      refine qj_aloadA_n hx hb d_law_122 rfl 2 rfl ?_
      refine qj_aloadA_n hx hb d_law_123 rfl 0 rfl ?_
      refine qj_iload_n hx hb d_law_124 rfl 3 rfl ?_
      refine qj_iconst (v := 1) hx hb d_law_125 (by decide) ?_
      refine qj_iadd hx hb d_law_126 ?_
      refine ql_ld (j := 3 * k + 1) hx hb hX hbl (by omega) (by omega) (nI_add (3 * k) 1) d_law_127 ?_
      refine qj_i2c hx hb d_law_128 ?_
      refine ql_Mi (is := [((xs (3 * k + 1)).toUInt32 % 65536).toInt32]) (st := [qi r]) hx hb hml hown hts hK hbx hbm (c_Md_html (((xs (3 * k + 1)).toUInt32 % 65536).toInt32) Mm _ e2) ⟨(callB_of 1 hts (q_good tn_4) rfl rfl rfl (hts _ tw_459) (hts _ tn_5) (by decide +kernel) ⟨by decide, by decide⟩), (hts _ tn_6), (hts _ tn_7)⟩ rfl rfl (Nat.le_of_ble_eq_true rfl) hcs hsl d_law_129 ?_
      refine qj_icmp_eq (tgt := 484) hx hb d_law_132 (by decide) (fun _ => ?_) (fun h => absurd rfl h)
      exact hnx _ _ hI1
    · refine qj_tableIn (off := 105) (tgt := 137) hx hb d_law_32 (by rw [ej]; decide) (by rw [ej]; decide) (by rw [ej] <;> rfl) (by decide) ?_
      obtain ⟨r, Mx1, Mm1, e1, e2, hI1⟩ := hq
      refine qj_aloadA_n hx hb d_law_137 rfl 1 rfl ?_
      refine qj_aloadA_n hx hb d_law_138 rfl 0 rfl ?_
      refine qj_iload_n hx hb d_law_139 rfl 3 rfl ?_
      refine qj_iconst (v := 1) hx hb d_law_140 (by decide) ?_
      refine qj_iadd hx hb d_law_141 ?_
      refine ql_ld (j := 3 * k + 1) hx hb hX hbl (by omega) (by omega) (nI_add (3 * k) 1) d_law_142 ?_
      refine qj_i2c hx hb d_law_143 ?_
      refine ql_Xi (is := [((xs (3 * k + 1)).toUInt32 % 65536).toInt32]) (st := []) hx hb hml hown hts hK hs hbx hbm (c_Pg_css (((xs (3 * k + 1)).toUInt32 % 65536).toInt32) Mx _ e1) ⟨(callB_of 1 hts (q_good tn_8) rfl rfl rfl (hts _ tw_4) (hts _ tn_9) (by decide +kernel) ⟨by decide, by decide⟩), (hts _ tn_10), (hts _ tn_11)⟩ rfl rfl (Nat.le_of_ble_eq_true rfl) hcs hsl d_law_144 ?_
      refine qj_aloadA_n hx hb d_law_147 rfl 2 rfl ?_
      refine qj_aloadA_n hx hb d_law_148 rfl 0 rfl ?_
      refine qj_iload_n hx hb d_law_149 rfl 3 rfl ?_
      refine qj_iconst (v := 1) hx hb d_law_150 (by decide) ?_
      refine qj_iadd hx hb d_law_151 ?_
      refine ql_ld (j := 3 * k + 1) hx hb hX hbl (by omega) (by omega) (nI_add (3 * k) 1) d_law_152 ?_
      refine qj_i2c hx hb d_law_153 ?_
      refine ql_Mi (is := [((xs (3 * k + 1)).toUInt32 % 65536).toInt32]) (st := [qi r]) hx hb hml hown hts hK hbx hbm (c_Md_css (((xs (3 * k + 1)).toUInt32 % 65536).toInt32) Mm _ e2) ⟨(callB_of 1 hts (q_good tn_12) rfl rfl rfl (hts _ tw_459) (hts _ tn_13) (by decide +kernel) ⟨by decide, by decide⟩), (hts _ tn_14), (hts _ tn_15)⟩ rfl rfl (Nat.le_of_ble_eq_true rfl) hcs hsl d_law_154 ?_
      refine qj_icmp_eq (tgt := 484) hx hb d_law_157 (by decide) (fun _ => ?_) (fun h => absurd rfl h)
      exact hnx _ _ hI1
    · refine qj_tableIn (off := 130) (tgt := 162) hx hb d_law_32 (by rw [ej]; decide) (by rw [ej]; decide) (by rw [ej] <;> rfl) (by decide) ?_
      obtain ⟨Mx1, Mm1, e1, e2, hI1⟩ := hq
      refine qj_aloadA_n hx hb d_law_162 rfl 1 rfl ?_
      refine ql_Xv (is := []) (st := []) hx hb hml hown hts hK hs hbx hbm (c_Pg_clear  Mx _ e1) ⟨(callB_of 0 hts (q_good tn_16) rfl rfl rfl (hts _ tw_4) (hts _ tn_17) (by decide +kernel) ⟨by decide, by decide⟩), (hts _ tn_18), (hts _ tn_19)⟩ rfl rfl (Nat.le_of_ble_eq_true rfl) hcs hsl d_law_163 ?_
      refine qj_aloadA_n hx hb d_law_166 rfl 2 rfl ?_
      refine ql_Mv (is := []) (st := []) hx hb hml hown hts hK hbx hbm (c_Md_clear  Mm _ e2) ⟨(callB_of 0 hts (q_good tn_20) rfl rfl rfl (hts _ tw_459) (hts _ tn_21) (by decide +kernel) ⟨by decide, by decide⟩), (hts _ tn_22), (hts _ tn_23)⟩ rfl rfl (Nat.le_of_ble_eq_true rfl) hcs hsl d_law_167 ?_
      refine qj_goto (tgt := 484) hx hb d_law_170 (by decide) ?_
      exact hnx _ _ hI1
    · refine qj_tableIn (off := 141) (tgt := 173) hx hb d_law_32 (by rw [ej]; decide) (by rw [ej]; decide) (by rw [ej] <;> rfl) (by decide) ?_
      obtain ⟨r, e1, e2, hI1⟩ := hq
      refine qj_aloadA_n hx hb d_law_173 rfl 1 rfl ?_
      refine ql_Xi (is := []) (st := []) hx hb hml hown hts hK hs hbx hbm (c_Pg_nodes  Mx _ e1) ⟨(callB_of 0 hts (q_good tn_24) rfl rfl rfl (hts _ tw_4) (hts _ tn_25) (by decide +kernel) ⟨by decide, by decide⟩), (hts _ tn_26), (hts _ tn_27)⟩ rfl rfl (Nat.le_of_ble_eq_true rfl) hcs hsl d_law_174 ?_
      refine qj_aloadA_n hx hb d_law_177 rfl 2 rfl ?_
      refine ql_Mi (is := []) (st := [qi r]) hx hb hml hown hts hK hbx hbm (c_Md_nodes  Mm _ e2) ⟨(callB_of 0 hts (q_good tn_28) rfl rfl rfl (hts _ tw_459) (hts _ tn_29) (by decide +kernel) ⟨by decide, by decide⟩), (hts _ tn_30), (hts _ tn_31)⟩ rfl rfl (Nat.le_of_ble_eq_true rfl) hcs hsl d_law_178 ?_
      refine qj_icmp_eq (tgt := 484) hx hb d_law_181 (by decide) (fun _ => ?_) (fun h => absurd rfl h)
      exact hnx _ _ hI1
    · refine qj_tableIn (off := 154) (tgt := 186) hx hb d_law_32 (by rw [ej]; decide) (by rw [ej]; decide) (by rw [ej] <;> rfl) (by decide) ?_
      obtain ⟨r, e1, e2, hI1⟩ := hq
      refine qj_aloadA_n hx hb d_law_186 rfl 1 rfl ?_
      refine qj_aloadA_n hx hb d_law_187 rfl 0 rfl ?_
      refine qj_iload_n hx hb d_law_188 rfl 3 rfl ?_
      refine qj_iconst (v := 1) hx hb d_law_189 (by decide) ?_
      refine qj_iadd hx hb d_law_190 ?_
      refine ql_ld (j := 3 * k + 1) hx hb hX hbl (by omega) (by omega) (nI_add (3 * k) 1) d_law_191 ?_
      refine ql_Xi (is := [(xs (3 * k + 1))]) (st := []) hx hb hml hown hts hK hs hbx hbm (c_Pg_name (xs (3 * k + 1)) Mx _ e1) ⟨(callB_of 1 hts (q_good tn_32) rfl rfl rfl (hts _ tw_4) (hts _ tn_33) (by decide +kernel) ⟨by decide, by decide⟩), (hts _ tn_34), (hts _ tn_35)⟩ rfl rfl (Nat.le_of_ble_eq_true rfl) hcs hsl d_law_192 ?_
      refine qj_aloadA_n hx hb d_law_195 rfl 2 rfl ?_
      refine qj_aloadA_n hx hb d_law_196 rfl 0 rfl ?_
      refine qj_iload_n hx hb d_law_197 rfl 3 rfl ?_
      refine qj_iconst (v := 1) hx hb d_law_198 (by decide) ?_
      refine qj_iadd hx hb d_law_199 ?_
      refine ql_ld (j := 3 * k + 1) hx hb hX hbl (by omega) (by omega) (nI_add (3 * k) 1) d_law_200 ?_
      refine ql_Mi (is := [(xs (3 * k + 1))]) (st := [qi r]) hx hb hml hown hts hK hbx hbm (c_Md_name (xs (3 * k + 1)) Mm _ e2) ⟨(callB_of 1 hts (q_good tn_36) rfl rfl rfl (hts _ tw_459) (hts _ tn_37) (by decide +kernel) ⟨by decide, by decide⟩), (hts _ tn_38), (hts _ tn_39)⟩ rfl rfl (Nat.le_of_ble_eq_true rfl) hcs hsl d_law_201 ?_
      refine qj_icmp_eq (tgt := 484) hx hb d_law_204 (by decide) (fun _ => ?_) (fun h => absurd rfl h)
      exact hnx _ _ hI1
    · refine qj_tableIn (off := 177) (tgt := 209) hx hb d_law_32 (by rw [ej]; decide) (by rw [ej]; decide) (by rw [ej] <;> rfl) (by decide) ?_
      obtain ⟨r, e1, e2, hI1⟩ := hq
      refine qj_aloadA_n hx hb d_law_209 rfl 1 rfl ?_
      refine qj_aloadA_n hx hb d_law_210 rfl 0 rfl ?_
      refine qj_iload_n hx hb d_law_211 rfl 3 rfl ?_
      refine qj_iconst (v := 1) hx hb d_law_212 (by decide) ?_
      refine qj_iadd hx hb d_law_213 ?_
      refine ql_ld (j := 3 * k + 1) hx hb hX hbl (by omega) (by omega) (nI_add (3 * k) 1) d_law_214 ?_
      refine ql_Xi (is := [(xs (3 * k + 1))]) (st := []) hx hb hml hown hts hK hs hbx hbm (c_Pg_parent (xs (3 * k + 1)) Mx _ e1) ⟨(callB_of 1 hts (q_good tn_40) rfl rfl rfl (hts _ tw_4) (hts _ tn_41) (by decide +kernel) ⟨by decide, by decide⟩), (hts _ tn_42), (hts _ tn_43)⟩ rfl rfl (Nat.le_of_ble_eq_true rfl) hcs hsl d_law_215 ?_
      refine qj_aloadA_n hx hb d_law_218 rfl 2 rfl ?_
      refine qj_aloadA_n hx hb d_law_219 rfl 0 rfl ?_
      refine qj_iload_n hx hb d_law_220 rfl 3 rfl ?_
      refine qj_iconst (v := 1) hx hb d_law_221 (by decide) ?_
      refine qj_iadd hx hb d_law_222 ?_
      refine ql_ld (j := 3 * k + 1) hx hb hX hbl (by omega) (by omega) (nI_add (3 * k) 1) d_law_223 ?_
      refine ql_Mi (is := [(xs (3 * k + 1))]) (st := [qi r]) hx hb hml hown hts hK hbx hbm (c_Md_parent (xs (3 * k + 1)) Mm _ e2) ⟨(callB_of 1 hts (q_good tn_44) rfl rfl rfl (hts _ tw_459) (hts _ tn_45) (by decide +kernel) ⟨by decide, by decide⟩), (hts _ tn_46), (hts _ tn_47)⟩ rfl rfl (Nat.le_of_ble_eq_true rfl) hcs hsl d_law_224 ?_
      refine qj_icmp_eq (tgt := 484) hx hb d_law_227 (by decide) (fun _ => ?_) (fun h => absurd rfl h)
      exact hnx _ _ hI1
    · refine qj_tableIn (off := 200) (tgt := 232) hx hb d_law_32 (by rw [ej]; decide) (by rw [ej]; decide) (by rw [ej] <;> rfl) (by decide) ?_
      obtain ⟨r, e1, e2, hI1⟩ := hq
      refine qj_aloadA_n hx hb d_law_232 rfl 1 rfl ?_
      refine qj_aloadA_n hx hb d_law_233 rfl 0 rfl ?_
      refine qj_iload_n hx hb d_law_234 rfl 3 rfl ?_
      refine qj_iconst (v := 1) hx hb d_law_235 (by decide) ?_
      refine qj_iadd hx hb d_law_236 ?_
      refine ql_ld (j := 3 * k + 1) hx hb hX hbl (by omega) (by omega) (nI_add (3 * k) 1) d_law_237 ?_
      refine ql_Xi (is := [(xs (3 * k + 1))]) (st := []) hx hb hml hown hts hK hs hbx hbm (c_Pg_classes (xs (3 * k + 1)) Mx _ e1) ⟨(callB_of 1 hts (q_good tn_48) rfl rfl rfl (hts _ tw_4) (hts _ tn_49) (by decide +kernel) ⟨by decide, by decide⟩), (hts _ tn_50), (hts _ tn_51)⟩ rfl rfl (Nat.le_of_ble_eq_true rfl) hcs hsl d_law_238 ?_
      refine qj_aloadA_n hx hb d_law_241 rfl 2 rfl ?_
      refine qj_aloadA_n hx hb d_law_242 rfl 0 rfl ?_
      refine qj_iload_n hx hb d_law_243 rfl 3 rfl ?_
      refine qj_iconst (v := 1) hx hb d_law_244 (by decide) ?_
      refine qj_iadd hx hb d_law_245 ?_
      refine ql_ld (j := 3 * k + 1) hx hb hX hbl (by omega) (by omega) (nI_add (3 * k) 1) d_law_246 ?_
      refine ql_Mi (is := [(xs (3 * k + 1))]) (st := [qi r]) hx hb hml hown hts hK hbx hbm (c_Md_classes (xs (3 * k + 1)) Mm _ e2) ⟨(callB_of 1 hts (q_good tn_52) rfl rfl rfl (hts _ tw_459) (hts _ tn_53) (by decide +kernel) ⟨by decide, by decide⟩), (hts _ tn_54), (hts _ tn_55)⟩ rfl rfl (Nat.le_of_ble_eq_true rfl) hcs hsl d_law_247 ?_
      refine qj_icmp_eq (tgt := 484) hx hb d_law_250 (by decide) (fun _ => ?_) (fun h => absurd rfl h)
      exact hnx _ _ hI1
    · refine qj_tableIn (off := 223) (tgt := 255) hx hb d_law_32 (by rw [ej]; decide) (by rw [ej]; decide) (by rw [ej] <;> rfl) (by decide) ?_
      obtain ⟨r, e1, e2, hI1⟩ := hq
      refine qj_aloadA_n hx hb d_law_255 rfl 1 rfl ?_
      refine qj_aloadA_n hx hb d_law_256 rfl 0 rfl ?_
      refine qj_iload_n hx hb d_law_257 rfl 3 rfl ?_
      refine qj_iconst (v := 1) hx hb d_law_258 (by decide) ?_
      refine qj_iadd hx hb d_law_259 ?_
      refine ql_ld (j := 3 * k + 1) hx hb hX hbl (by omega) (by omega) (nI_add (3 * k) 1) d_law_260 ?_
      refine qj_aloadA_n hx hb d_law_261 rfl 0 rfl ?_
      refine qj_iload_n hx hb d_law_262 rfl 3 rfl ?_
      refine qj_iconst (v := 2) hx hb d_law_263 (by decide) ?_
      refine qj_iadd hx hb d_law_264 ?_
      refine ql_ld (j := 3 * k + 2) hx hb hX hbl (by omega) (by omega) (nI_add (3 * k) 2) d_law_265 ?_
      refine ql_Xi (is := [(xs (3 * k + 1)), (xs (3 * k + 2))]) (st := []) hx hb hml hown hts hK hs hbx hbm (c_Pg_letter (xs (3 * k + 1)) (xs (3 * k + 2)) Mx _ e1) ⟨(callB_of 2 hts (q_good tn_56) rfl rfl rfl (hts _ tw_4) (hts _ tn_57) (by decide +kernel) ⟨by decide, by decide⟩), (hts _ tn_58), (hts _ tn_59)⟩ rfl rfl (Nat.le_of_ble_eq_true rfl) hcs hsl d_law_266 ?_
      refine qj_aloadA_n hx hb d_law_269 rfl 2 rfl ?_
      refine qj_aloadA_n hx hb d_law_270 rfl 0 rfl ?_
      refine qj_iload_n hx hb d_law_271 rfl 3 rfl ?_
      refine qj_iconst (v := 1) hx hb d_law_272 (by decide) ?_
      refine qj_iadd hx hb d_law_273 ?_
      refine ql_ld (j := 3 * k + 1) hx hb hX hbl (by omega) (by omega) (nI_add (3 * k) 1) d_law_274 ?_
      refine qj_aloadA_n hx hb d_law_275 rfl 0 rfl ?_
      refine qj_iload_n hx hb d_law_276 rfl 3 rfl ?_
      refine qj_iconst (v := 2) hx hb d_law_277 (by decide) ?_
      refine qj_iadd hx hb d_law_278 ?_
      refine ql_ld (j := 3 * k + 2) hx hb hX hbl (by omega) (by omega) (nI_add (3 * k) 2) d_law_279 ?_
      refine ql_Mi (is := [(xs (3 * k + 1)), (xs (3 * k + 2))]) (st := [qi r]) hx hb hml hown hts hK hbx hbm (c_Md_letter (xs (3 * k + 1)) (xs (3 * k + 2)) Mm _ e2) ⟨(callB_of 2 hts (q_good tn_60) rfl rfl rfl (hts _ tw_459) (hts _ tn_61) (by decide +kernel) ⟨by decide, by decide⟩), (hts _ tn_62), (hts _ tn_63)⟩ rfl rfl (Nat.le_of_ble_eq_true rfl) hcs hsl d_law_280 ?_
      refine qj_icmp_eq (tgt := 484) hx hb d_law_283 (by decide) (fun _ => ?_) (fun h => absurd rfl h)
      exact hnx _ _ hI1
    · refine qj_tableIn (off := 256) (tgt := 288) hx hb d_law_32 (by rw [ej]; decide) (by rw [ej]; decide) (by rw [ej] <;> rfl) (by decide) ?_
      obtain ⟨r, e1, e2, hI1⟩ := hq
      refine qj_aloadA_n hx hb d_law_288 rfl 1 rfl ?_
      refine ql_Xi (is := []) (st := []) hx hb hml hown hts hK hs hbx hbm (c_Pg_open  Mx _ e1) ⟨(callB_of 0 hts (q_good tn_64) rfl rfl rfl (hts _ tw_4) (hts _ tn_65) (by decide +kernel) ⟨by decide, by decide⟩), (hts _ tn_66), (hts _ tn_67)⟩ rfl rfl (Nat.le_of_ble_eq_true rfl) hcs hsl d_law_289 ?_
      refine qj_aloadA_n hx hb d_law_292 rfl 2 rfl ?_
      refine ql_Mi (is := []) (st := [qi r]) hx hb hml hown hts hK hbx hbm (c_Md_open  Mm _ e2) ⟨(callB_of 0 hts (q_good tn_68) rfl rfl rfl (hts _ tw_459) (hts _ tn_69) (by decide +kernel) ⟨by decide, by decide⟩), (hts _ tn_70), (hts _ tn_71)⟩ rfl rfl (Nat.le_of_ble_eq_true rfl) hcs hsl d_law_293 ?_
      refine qj_icmp_eq (tgt := 484) hx hb d_law_296 (by decide) (fun _ => ?_) (fun h => absurd rfl h)
      exact hnx _ _ hI1
    · refine qj_tableIn (off := 269) (tgt := 301) hx hb d_law_32 (by rw [ej]; decide) (by rw [ej]; decide) (by rw [ej] <;> rfl) (by decide) ?_
      obtain ⟨r, Mm1, e1, e2, hI1⟩ := hq
      refine qj_aloadA_n hx hb d_law_301 rfl 1 rfl ?_
      refine ql_Xi (is := []) (st := []) hx hb hml hown hts hK hs hbx hbm (c_Pg_rules  Mx _ e1) ⟨(callB_of 0 hts (q_good tn_72) rfl rfl rfl (hts _ tw_4) (hts _ tn_73) (by decide +kernel) ⟨by decide, by decide⟩), (hts _ tn_74), (hts _ tn_75)⟩ rfl rfl (Nat.le_of_ble_eq_true rfl) hcs hsl d_law_302 ?_
      refine qj_aloadA_n hx hb d_law_305 rfl 2 rfl ?_
      refine ql_Mi (is := []) (st := [qi r]) hx hb hml hown hts hK hbx hbm (c_Md_rules  Mm _ e2) ⟨(callB_of 0 hts (q_good tn_76) rfl rfl rfl (hts _ tw_459) (hts _ tn_77) (by decide +kernel) ⟨by decide, by decide⟩), (hts _ tn_78), (hts _ tn_79)⟩ rfl rfl (Nat.le_of_ble_eq_true rfl) hcs hsl d_law_306 ?_
      refine qj_icmp_eq (tgt := 484) hx hb d_law_309 (by decide) (fun _ => ?_) (fun h => absurd rfl h)
      exact hnx _ _ hI1
    · refine qj_tableIn (off := 282) (tgt := 314) hx hb d_law_32 (by rw [ej]; decide) (by rw [ej]; decide) (by rw [ej] <;> rfl) (by decide) ?_
      obtain ⟨r, Mx1, Mm1, e1, e2, hI1⟩ := hq
      refine qj_aloadA_n hx hb d_law_314 rfl 1 rfl ?_
      refine qj_aloadA_n hx hb d_law_315 rfl 0 rfl ?_
      refine qj_iload_n hx hb d_law_316 rfl 3 rfl ?_
      refine qj_iconst (v := 1) hx hb d_law_317 (by decide) ?_
      refine qj_iadd hx hb d_law_318 ?_
      refine ql_ld (j := 3 * k + 1) hx hb hX hbl (by omega) (by omega) (nI_add (3 * k) 1) d_law_319 ?_
      refine qj_aloadA_n hx hb d_law_320 rfl 0 rfl ?_
      refine qj_iload_n hx hb d_law_321 rfl 3 rfl ?_
      refine qj_iconst (v := 2) hx hb d_law_322 (by decide) ?_
      refine qj_iadd hx hb d_law_323 ?_
      refine ql_ld (j := 3 * k + 2) hx hb hX hbl (by omega) (by omega) (nI_add (3 * k) 2) d_law_324 ?_
      refine qj_i2c hx hb d_law_325 ?_
      refine ql_Xi (is := [(xs (3 * k + 1)), ((xs (3 * k + 2)).toUInt32 % 65536).toInt32]) (st := []) hx hb hml hown hts hK hs hbx hbm (c_Pg_value (xs (3 * k + 1)) (((xs (3 * k + 2)).toUInt32 % 65536).toInt32) Mx _ e1) ⟨(callB_of 2 hts (q_good tn_80) rfl rfl rfl (hts _ tw_4) (hts _ tn_81) (by decide +kernel) ⟨by decide, by decide⟩), (hts _ tn_82), (hts _ tn_83)⟩ rfl rfl (Nat.le_of_ble_eq_true rfl) hcs hsl d_law_326 ?_
      refine qj_aloadA_n hx hb d_law_329 rfl 2 rfl ?_
      refine qj_aloadA_n hx hb d_law_330 rfl 0 rfl ?_
      refine qj_iload_n hx hb d_law_331 rfl 3 rfl ?_
      refine qj_iconst (v := 1) hx hb d_law_332 (by decide) ?_
      refine qj_iadd hx hb d_law_333 ?_
      refine ql_ld (j := 3 * k + 1) hx hb hX hbl (by omega) (by omega) (nI_add (3 * k) 1) d_law_334 ?_
      refine qj_aloadA_n hx hb d_law_335 rfl 0 rfl ?_
      refine qj_iload_n hx hb d_law_336 rfl 3 rfl ?_
      refine qj_iconst (v := 2) hx hb d_law_337 (by decide) ?_
      refine qj_iadd hx hb d_law_338 ?_
      refine ql_ld (j := 3 * k + 2) hx hb hX hbl (by omega) (by omega) (nI_add (3 * k) 2) d_law_339 ?_
      refine qj_i2c hx hb d_law_340 ?_
      refine ql_Mi (is := [(xs (3 * k + 1)), ((xs (3 * k + 2)).toUInt32 % 65536).toInt32]) (st := [qi r]) hx hb hml hown hts hK hbx hbm (c_Md_value (xs (3 * k + 1)) (((xs (3 * k + 2)).toUInt32 % 65536).toInt32) Mm _ e2) ⟨(callB_of 2 hts (q_good tn_84) rfl rfl rfl (hts _ tw_459) (hts _ tn_85) (by decide +kernel) ⟨by decide, by decide⟩), (hts _ tn_86), (hts _ tn_87)⟩ rfl rfl (Nat.le_of_ble_eq_true rfl) hcs hsl d_law_341 ?_
      refine qj_icmp_eq (tgt := 484) hx hb d_law_344 (by decide) (fun _ => ?_) (fun h => absurd rfl h)
      exact hnx _ _ hI1
    · refine qj_tableIn (off := 317) (tgt := 349) hx hb d_law_32 (by rw [ej]; decide) (by rw [ej]; decide) (by rw [ej] <;> rfl) (by decide) ?_
      obtain ⟨r, Mx1, Mm1, e1, e2, hI1⟩ := hq
      refine qj_aloadA_n hx hb d_law_349 rfl 1 rfl ?_
      refine qj_aloadA_n hx hb d_law_350 rfl 0 rfl ?_
      refine qj_iload_n hx hb d_law_351 rfl 3 rfl ?_
      refine qj_iconst (v := 1) hx hb d_law_352 (by decide) ?_
      refine qj_iadd hx hb d_law_353 ?_
      refine ql_ld (j := 3 * k + 1) hx hb hX hbl (by omega) (by omega) (nI_add (3 * k) 1) d_law_354 ?_
      refine ql_Xi (is := [(xs (3 * k + 1))]) (st := []) hx hb hml hown hts hK hs hbx hbm (c_Pg_layout (xs (3 * k + 1)) Mx _ e1) ⟨(callB_of 1 hts (q_good tn_88) rfl rfl rfl (hts _ tw_4) (hts _ tn_89) (by decide +kernel) ⟨by decide, by decide⟩), (hts _ tn_90), (hts _ tn_91)⟩ rfl rfl (Nat.le_of_ble_eq_true rfl) hcs hsl d_law_355 ?_
      refine qj_aloadA_n hx hb d_law_358 rfl 2 rfl ?_
      refine qj_aloadA_n hx hb d_law_359 rfl 0 rfl ?_
      refine qj_iload_n hx hb d_law_360 rfl 3 rfl ?_
      refine qj_iconst (v := 1) hx hb d_law_361 (by decide) ?_
      refine qj_iadd hx hb d_law_362 ?_
      refine ql_ld (j := 3 * k + 1) hx hb hX hbl (by omega) (by omega) (nI_add (3 * k) 1) d_law_363 ?_
      refine ql_Mi (is := [(xs (3 * k + 1))]) (st := [qi r]) hx hb hml hown hts hK hbx hbm (c_Md_layout (xs (3 * k + 1)) Mm _ e2) ⟨(callB_of 1 hts (q_good tn_92) rfl rfl rfl (hts _ tw_459) (hts _ tn_93) (by decide +kernel) ⟨by decide, by decide⟩), (hts _ tn_94), (hts _ tn_95)⟩ rfl rfl (Nat.le_of_ble_eq_true rfl) hcs hsl d_law_364 ?_
      refine qj_icmp_eq (tgt := 484) hx hb d_law_367 (by decide) (fun _ => ?_) (fun h => absurd rfl h)
      exact hnx _ _ hI1
    · refine qj_tableIn (off := 340) (tgt := 372) hx hb d_law_32 (by rw [ej]; decide) (by rw [ej]; decide) (by rw [ej] <;> rfl) (by decide) ?_
      obtain ⟨r, e1, e2, hI1⟩ := hq
      refine qj_aloadA_n hx hb d_law_372 rfl 1 rfl ?_
      refine qj_aloadA_n hx hb d_law_373 rfl 0 rfl ?_
      refine qj_iload_n hx hb d_law_374 rfl 3 rfl ?_
      refine qj_iconst (v := 1) hx hb d_law_375 (by decide) ?_
      refine qj_iadd hx hb d_law_376 ?_
      refine ql_ld (j := 3 * k + 1) hx hb hX hbl (by omega) (by omega) (nI_add (3 * k) 1) d_law_377 ?_
      refine qj_aloadA_n hx hb d_law_378 rfl 0 rfl ?_
      refine qj_iload_n hx hb d_law_379 rfl 3 rfl ?_
      refine qj_iconst (v := 2) hx hb d_law_380 (by decide) ?_
      refine qj_iadd hx hb d_law_381 ?_
      refine ql_ld (j := 3 * k + 2) hx hb hX hbl (by omega) (by omega) (nI_add (3 * k) 2) d_law_382 ?_
      refine ql_Xi (is := [(xs (3 * k + 1)), (xs (3 * k + 2))]) (st := []) hx hb hml hown hts hK hs hbx hbm (c_Pg_box (xs (3 * k + 1)) (xs (3 * k + 2)) Mx _ e1) ⟨(callB_of 2 hts (q_good tn_96) rfl rfl rfl (hts _ tw_4) (hts _ tn_97) (by decide +kernel) ⟨by decide, by decide⟩), (hts _ tn_98), (hts _ tn_99)⟩ rfl rfl (Nat.le_of_ble_eq_true rfl) hcs hsl d_law_383 ?_
      refine qj_aloadA_n hx hb d_law_386 rfl 2 rfl ?_
      refine qj_aloadA_n hx hb d_law_387 rfl 0 rfl ?_
      refine qj_iload_n hx hb d_law_388 rfl 3 rfl ?_
      refine qj_iconst (v := 1) hx hb d_law_389 (by decide) ?_
      refine qj_iadd hx hb d_law_390 ?_
      refine ql_ld (j := 3 * k + 1) hx hb hX hbl (by omega) (by omega) (nI_add (3 * k) 1) d_law_391 ?_
      refine qj_aloadA_n hx hb d_law_392 rfl 0 rfl ?_
      refine qj_iload_n hx hb d_law_393 rfl 3 rfl ?_
      refine qj_iconst (v := 2) hx hb d_law_394 (by decide) ?_
      refine qj_iadd hx hb d_law_395 ?_
      refine ql_ld (j := 3 * k + 2) hx hb hX hbl (by omega) (by omega) (nI_add (3 * k) 2) d_law_396 ?_
      refine ql_Mi (is := [(xs (3 * k + 1)), (xs (3 * k + 2))]) (st := [qi r]) hx hb hml hown hts hK hbx hbm (c_Md_box (xs (3 * k + 1)) (xs (3 * k + 2)) Mm _ e2) ⟨(callB_of 2 hts (q_good tn_100) rfl rfl rfl (hts _ tw_459) (hts _ tn_101) (by decide +kernel) ⟨by decide, by decide⟩), (hts _ tn_102), (hts _ tn_103)⟩ rfl rfl (Nat.le_of_ble_eq_true rfl) hcs hsl d_law_397 ?_
      refine qj_icmp_eq (tgt := 484) hx hb d_law_400 (by decide) (fun _ => ?_) (fun h => absurd rfl h)
      exact hnx _ _ hI1
    · refine qj_tableIn (off := 373) (tgt := 405) hx hb d_law_32 (by rw [ej]; decide) (by rw [ej]; decide) (by rw [ej] <;> rfl) (by decide) ?_
      obtain ⟨r, e1, e2, hI1⟩ := hq
      refine qj_aloadA_n hx hb d_law_405 rfl 1 rfl ?_
      refine qj_aloadA_n hx hb d_law_406 rfl 0 rfl ?_
      refine qj_iload_n hx hb d_law_407 rfl 3 rfl ?_
      refine qj_iconst (v := 1) hx hb d_law_408 (by decide) ?_
      refine qj_iadd hx hb d_law_409 ?_
      refine ql_ld (j := 3 * k + 1) hx hb hX hbl (by omega) (by omega) (nI_add (3 * k) 1) d_law_410 ?_
      refine qj_aloadA_n hx hb d_law_411 rfl 0 rfl ?_
      refine qj_iload_n hx hb d_law_412 rfl 3 rfl ?_
      refine qj_iconst (v := 2) hx hb d_law_413 (by decide) ?_
      refine qj_iadd hx hb d_law_414 ?_
      refine ql_ld (j := 3 * k + 2) hx hb hX hbl (by omega) (by omega) (nI_add (3 * k) 2) d_law_415 ?_
      refine ql_Xi (is := [(xs (3 * k + 1)), (xs (3 * k + 2))]) (st := []) hx hb hml hown hts hK hs hbx hbm (c_Pg_place (xs (3 * k + 1)) (xs (3 * k + 2)) Mx _ e1) ⟨(callB_of 2 hts (q_good tn_104) rfl rfl rfl (hts _ tw_4) (hts _ tn_105) (by decide +kernel) ⟨by decide, by decide⟩), (hts _ tn_106), (hts _ tn_107)⟩ rfl rfl (Nat.le_of_ble_eq_true rfl) hcs hsl d_law_416 ?_
      refine qj_aloadA_n hx hb d_law_419 rfl 2 rfl ?_
      refine qj_aloadA_n hx hb d_law_420 rfl 0 rfl ?_
      refine qj_iload_n hx hb d_law_421 rfl 3 rfl ?_
      refine qj_iconst (v := 1) hx hb d_law_422 (by decide) ?_
      refine qj_iadd hx hb d_law_423 ?_
      refine ql_ld (j := 3 * k + 1) hx hb hX hbl (by omega) (by omega) (nI_add (3 * k) 1) d_law_424 ?_
      refine qj_aloadA_n hx hb d_law_425 rfl 0 rfl ?_
      refine qj_iload_n hx hb d_law_426 rfl 3 rfl ?_
      refine qj_iconst (v := 2) hx hb d_law_427 (by decide) ?_
      refine qj_iadd hx hb d_law_428 ?_
      refine ql_ld (j := 3 * k + 2) hx hb hX hbl (by omega) (by omega) (nI_add (3 * k) 2) d_law_429 ?_
      refine ql_Mi (is := [(xs (3 * k + 1)), (xs (3 * k + 2))]) (st := [qi r]) hx hb hml hown hts hK hbx hbm (c_Md_place (xs (3 * k + 1)) (xs (3 * k + 2)) Mm _ e2) ⟨(callB_of 2 hts (q_good tn_108) rfl rfl rfl (hts _ tw_459) (hts _ tn_109) (by decide +kernel) ⟨by decide, by decide⟩), (hts _ tn_110), (hts _ tn_111)⟩ rfl rfl (Nat.le_of_ble_eq_true rfl) hcs hsl d_law_430 ?_
      refine qj_icmp_eq (tgt := 484) hx hb d_law_433 (by decide) (fun _ => ?_) (fun h => absurd rfl h)
      exact hnx _ _ hI1
    · refine qj_tableIn (off := 406) (tgt := 438) hx hb d_law_32 (by rw [ej]; decide) (by rw [ej]; decide) (by rw [ej] <;> rfl) (by decide) ?_
      obtain ⟨r, e1, e2, hI1⟩ := hq
      refine qj_aloadA_n hx hb d_law_438 rfl 1 rfl ?_
      refine ql_Xi (is := []) (st := []) hx hb hml hown hts hK hs hbx hbm (c_Pg_lines  Mx _ e1) ⟨(callB_of 0 hts (q_good tn_112) rfl rfl rfl (hts _ tw_4) (hts _ tn_113) (by decide +kernel) ⟨by decide, by decide⟩), (hts _ tn_114), (hts _ tn_115)⟩ rfl rfl (Nat.le_of_ble_eq_true rfl) hcs hsl d_law_439 ?_
      refine qj_aloadA_n hx hb d_law_442 rfl 2 rfl ?_
      refine ql_Mi (is := []) (st := [qi r]) hx hb hml hown hts hK hbx hbm (c_Md_lines  Mm _ e2) ⟨(callB_of 0 hts (q_good tn_116) rfl rfl rfl (hts _ tw_459) (hts _ tn_117) (by decide +kernel) ⟨by decide, by decide⟩), (hts _ tn_118), (hts _ tn_119)⟩ rfl rfl (Nat.le_of_ble_eq_true rfl) hcs hsl d_law_443 ?_
      refine qj_icmp_eq (tgt := 484) hx hb d_law_446 (by decide) (fun _ => ?_) (fun h => absurd rfl h)
      exact hnx _ _ hI1
    · refine qj_tableIn (off := 419) (tgt := 451) hx hb d_law_32 (by rw [ej]; decide) (by rw [ej]; decide) (by rw [ej] <;> rfl) (by decide) ?_
      obtain ⟨r, e1, e2, hI1⟩ := hq
      refine qj_aloadA_n hx hb d_law_451 rfl 1 rfl ?_
      refine qj_aloadA_n hx hb d_law_452 rfl 0 rfl ?_
      refine qj_iload_n hx hb d_law_453 rfl 3 rfl ?_
      refine qj_iconst (v := 1) hx hb d_law_454 (by decide) ?_
      refine qj_iadd hx hb d_law_455 ?_
      refine ql_ld (j := 3 * k + 1) hx hb hX hbl (by omega) (by omega) (nI_add (3 * k) 1) d_law_456 ?_
      refine qj_aloadA_n hx hb d_law_457 rfl 0 rfl ?_
      refine qj_iload_n hx hb d_law_458 rfl 3 rfl ?_
      refine qj_iconst (v := 2) hx hb d_law_459 (by decide) ?_
      refine qj_iadd hx hb d_law_460 ?_
      refine ql_ld (j := 3 * k + 2) hx hb hX hbl (by omega) (by omega) (nI_add (3 * k) 2) d_law_461 ?_
      refine ql_Xi (is := [(xs (3 * k + 1)), (xs (3 * k + 2))]) (st := []) hx hb hml hown hts hK hs hbx hbm (c_Pg_pixel (xs (3 * k + 1)) (xs (3 * k + 2)) Mx _ e1) ⟨(callB_of 2 hts (q_good tn_120) rfl rfl rfl (hts _ tw_4) (hts _ tn_121) (by decide +kernel) ⟨by decide, by decide⟩), (hts _ tn_122), (hts _ tn_123)⟩ rfl rfl (Nat.le_of_ble_eq_true rfl) hcs hsl d_law_462 ?_
      refine qj_aloadA_n hx hb d_law_465 rfl 2 rfl ?_
      refine qj_aloadA_n hx hb d_law_466 rfl 0 rfl ?_
      refine qj_iload_n hx hb d_law_467 rfl 3 rfl ?_
      refine qj_iconst (v := 1) hx hb d_law_468 (by decide) ?_
      refine qj_iadd hx hb d_law_469 ?_
      refine ql_ld (j := 3 * k + 1) hx hb hX hbl (by omega) (by omega) (nI_add (3 * k) 1) d_law_470 ?_
      refine qj_aloadA_n hx hb d_law_471 rfl 0 rfl ?_
      refine qj_iload_n hx hb d_law_472 rfl 3 rfl ?_
      refine qj_iconst (v := 2) hx hb d_law_473 (by decide) ?_
      refine qj_iadd hx hb d_law_474 ?_
      refine ql_ld (j := 3 * k + 2) hx hb hX hbl (by omega) (by omega) (nI_add (3 * k) 2) d_law_475 ?_
      refine ql_Mi (is := [(xs (3 * k + 1)), (xs (3 * k + 2))]) (st := [qi r]) hx hb hml hown hts hK hbx hbm (c_Md_pixel (xs (3 * k + 1)) (xs (3 * k + 2)) Mm _ e2) ⟨(callB_of 2 hts (q_good tn_124) rfl rfl rfl (hts _ tw_459) (hts _ tn_125) (by decide +kernel) ⟨by decide, by decide⟩), (hts _ tn_126), (hts _ tn_127)⟩ rfl rfl (Nat.le_of_ble_eq_true rfl) hcs hsl d_law_476 ?_
      refine qj_icmp_eq (tgt := 484) hx hb d_law_479 (by decide) (fun _ => ?_) (fun h => absurd rfl h)
      exact hnx _ _ hI1
