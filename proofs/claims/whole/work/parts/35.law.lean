abbrev y_Law_cell : zq_Md := (⟨"RiichiTableLaw", "cell", "([II)I"⟩, method_2_code, 2, (some .int))
theorem d_Law_law_0 : decode code 0 = .ok (.new 7, 3) := by decide +kernel
theorem d_Law_law_3 : decode code 3 = .ok (.dup, 1) := by decide +kernel
theorem d_Law_law_4 : decode code 4 = .ok (.aload_n 0, 1) := by decide +kernel
theorem d_Law_law_5 : decode code 5 = .ok (.iconst 0, 1) := by decide +kernel
theorem d_Law_law_6 : decode code 6 = .ok (.invokestatic 9, 3) := by decide +kernel
theorem d_Law_law_9 : decode code 9 = .ok (.invokespecial 15, 3) := by decide +kernel
theorem d_Law_law_12 : decode code 12 = .ok (.astore_n 1, 1) := by decide +kernel
theorem d_Law_law_13 : decode code 13 = .ok (.new 18, 3) := by decide +kernel
theorem d_Law_law_16 : decode code 16 = .ok (.dup, 1) := by decide +kernel
theorem d_Law_law_17 : decode code 17 = .ok (.aload_n 0, 1) := by decide +kernel
theorem d_Law_law_18 : decode code 18 = .ok (.iconst 0, 1) := by decide +kernel
theorem d_Law_law_19 : decode code 19 = .ok (.invokestatic 9, 3) := by decide +kernel
theorem d_Law_law_22 : decode code 22 = .ok (.invokespecial 20, 3) := by decide +kernel
theorem d_Law_law_25 : decode code 25 = .ok (.astore_n 2, 1) := by decide +kernel
theorem d_Law_law_26 : decode code 26 = .ok (.iconst 1, 1) := by decide +kernel
theorem d_Law_law_27 : decode code 27 = .ok (.istore_n 3, 1) := by decide +kernel
theorem d_Law_law_28 : decode code 28 = .ok (.iload_n 3, 1) := by decide +kernel
theorem d_Law_law_29 : decode code 29 = .ok (.aload_n 0, 1) := by decide +kernel
theorem d_Law_law_30 : decode code 30 = .ok (.arraylength, 1) := by decide +kernel
theorem d_Law_law_31 : decode code 31 = .ok (.iconst 4, 1) := by decide +kernel
theorem d_Law_law_32 : decode code 32 = .ok (.isub, 1) := by decide +kernel
theorem d_Law_law_33 : decode code 33 = .ok (.if_icmp .gt 624, 3) := by decide +kernel
theorem d_Law_law_36 : decode code 36 = .ok (.aload_n 0, 1) := by decide +kernel
theorem d_Law_law_37 : decode code 37 = .ok (.iload_n 3, 1) := by decide +kernel
theorem d_Law_law_38 : decode code 38 = .ok (.iaload, 1) := by decide +kernel
theorem d_Law_law_39 : decode code 39 = .ok (.bipush 31, 2) := by decide +kernel
theorem d_Law_law_41 : decode code 41 = .ok (.iand, 1) := by decide +kernel
theorem d_Law_law_42 : decode code 42 = .ok (.tableswitch 609 0 20 #[98, 131, 144, 193, 216, 229, 252, 295, 308, 321, 334, 347, 380, 413, 446, 470, 493, 516, 539, 572, 596], 98) := by decide +kernel
theorem d_Law_law_140 : decode code 140 = .ok (.aload_n 1, 1) := by decide +kernel
theorem d_Law_law_141 : decode code 141 = .ok (.aload_n 0, 1) := by decide +kernel
theorem d_Law_law_142 : decode code 142 = .ok (.iload_n 3, 1) := by decide +kernel
theorem d_Law_law_143 : decode code 143 = .ok (.iconst 1, 1) := by decide +kernel
theorem d_Law_law_144 : decode code 144 = .ok (.iadd, 1) := by decide +kernel
theorem d_Law_law_145 : decode code 145 = .ok (.iaload, 1) := by decide +kernel
theorem d_Law_law_146 : decode code 146 = .ok (.aload_n 0, 1) := by decide +kernel
theorem d_Law_law_147 : decode code 147 = .ok (.iload_n 3, 1) := by decide +kernel
theorem d_Law_law_148 : decode code 148 = .ok (.iconst 2, 1) := by decide +kernel
theorem d_Law_law_149 : decode code 149 = .ok (.iadd, 1) := by decide +kernel
theorem d_Law_law_150 : decode code 150 = .ok (.iaload, 1) := by decide +kernel
theorem d_Law_law_151 : decode code 151 = .ok (.invokevirtual 21, 3) := by decide +kernel
theorem d_Law_law_154 : decode code 154 = .ok (.aload_n 2, 1) := by decide +kernel
theorem d_Law_law_155 : decode code 155 = .ok (.aload_n 0, 1) := by decide +kernel
theorem d_Law_law_156 : decode code 156 = .ok (.iload_n 3, 1) := by decide +kernel
theorem d_Law_law_157 : decode code 157 = .ok (.iconst 1, 1) := by decide +kernel
theorem d_Law_law_158 : decode code 158 = .ok (.iadd, 1) := by decide +kernel
theorem d_Law_law_159 : decode code 159 = .ok (.iaload, 1) := by decide +kernel
theorem d_Law_law_160 : decode code 160 = .ok (.aload_n 0, 1) := by decide +kernel
theorem d_Law_law_161 : decode code 161 = .ok (.iload_n 3, 1) := by decide +kernel
theorem d_Law_law_162 : decode code 162 = .ok (.iconst 2, 1) := by decide +kernel
theorem d_Law_law_163 : decode code 163 = .ok (.iadd, 1) := by decide +kernel
theorem d_Law_law_164 : decode code 164 = .ok (.iaload, 1) := by decide +kernel
theorem d_Law_law_165 : decode code 165 = .ok (.invokevirtual 25, 3) := by decide +kernel
theorem d_Law_law_168 : decode code 168 = .ok (.if_icmp .eq 483, 3) := by decide +kernel
theorem d_Law_law_171 : decode code 171 = .ok (.iconst 0, 1) := by decide +kernel
theorem d_Law_law_172 : decode code 172 = .ok (.ireturn, 1) := by decide +kernel
theorem d_Law_law_173 : decode code 173 = .ok (.aload_n 1, 1) := by decide +kernel
theorem d_Law_law_174 : decode code 174 = .ok (.invokevirtual 26, 3) := by decide +kernel
theorem d_Law_law_177 : decode code 177 = .ok (.aload_n 2, 1) := by decide +kernel
theorem d_Law_law_178 : decode code 178 = .ok (.invokevirtual 30, 3) := by decide +kernel
theorem d_Law_law_181 : decode code 181 = .ok (.if_icmp .eq 470, 3) := by decide +kernel
theorem d_Law_law_184 : decode code 184 = .ok (.iconst 0, 1) := by decide +kernel
theorem d_Law_law_185 : decode code 185 = .ok (.ireturn, 1) := by decide +kernel
theorem d_Law_law_186 : decode code 186 = .ok (.aload_n 1, 1) := by decide +kernel
theorem d_Law_law_187 : decode code 187 = .ok (.aload_n 0, 1) := by decide +kernel
theorem d_Law_law_188 : decode code 188 = .ok (.iload_n 3, 1) := by decide +kernel
theorem d_Law_law_189 : decode code 189 = .ok (.iconst 1, 1) := by decide +kernel
theorem d_Law_law_190 : decode code 190 = .ok (.iadd, 1) := by decide +kernel
theorem d_Law_law_191 : decode code 191 = .ok (.iaload, 1) := by decide +kernel
theorem d_Law_law_192 : decode code 192 = .ok (.aload_n 0, 1) := by decide +kernel
theorem d_Law_law_193 : decode code 193 = .ok (.iload_n 3, 1) := by decide +kernel
theorem d_Law_law_194 : decode code 194 = .ok (.iconst 2, 1) := by decide +kernel
theorem d_Law_law_195 : decode code 195 = .ok (.iadd, 1) := by decide +kernel
theorem d_Law_law_196 : decode code 196 = .ok (.iaload, 1) := by decide +kernel
theorem d_Law_law_197 : decode code 197 = .ok (.ifCond .eq 7, 3) := by decide +kernel
theorem d_Law_law_200 : decode code 200 = .ok (.iconst 1, 1) := by decide +kernel
theorem d_Law_law_201 : decode code 201 = .ok (.goto 4, 3) := by decide +kernel
theorem d_Law_law_204 : decode code 204 = .ok (.iconst 0, 1) := by decide +kernel
theorem d_Law_law_205 : decode code 205 = .ok (.invokevirtual 31, 3) := by decide +kernel
theorem d_Law_law_208 : decode code 208 = .ok (.aload_n 2, 1) := by decide +kernel
theorem d_Law_law_209 : decode code 209 = .ok (.aload_n 0, 1) := by decide +kernel
theorem d_Law_law_210 : decode code 210 = .ok (.iload_n 3, 1) := by decide +kernel
theorem d_Law_law_211 : decode code 211 = .ok (.iconst 1, 1) := by decide +kernel
theorem d_Law_law_212 : decode code 212 = .ok (.iadd, 1) := by decide +kernel
theorem d_Law_law_213 : decode code 213 = .ok (.iaload, 1) := by decide +kernel
theorem d_Law_law_214 : decode code 214 = .ok (.aload_n 0, 1) := by decide +kernel
theorem d_Law_law_215 : decode code 215 = .ok (.iload_n 3, 1) := by decide +kernel
theorem d_Law_law_216 : decode code 216 = .ok (.iconst 2, 1) := by decide +kernel
theorem d_Law_law_217 : decode code 217 = .ok (.iadd, 1) := by decide +kernel
theorem d_Law_law_218 : decode code 218 = .ok (.iaload, 1) := by decide +kernel
theorem d_Law_law_219 : decode code 219 = .ok (.ifCond .eq 7, 3) := by decide +kernel
theorem d_Law_law_222 : decode code 222 = .ok (.iconst 1, 1) := by decide +kernel
theorem d_Law_law_223 : decode code 223 = .ok (.goto 4, 3) := by decide +kernel
theorem d_Law_law_226 : decode code 226 = .ok (.iconst 0, 1) := by decide +kernel
theorem d_Law_law_227 : decode code 227 = .ok (.invokevirtual 35, 3) := by decide +kernel
theorem d_Law_law_230 : decode code 230 = .ok (.if_icmp .eq 421, 3) := by decide +kernel
theorem d_Law_law_233 : decode code 233 = .ok (.iconst 0, 1) := by decide +kernel
theorem d_Law_law_234 : decode code 234 = .ok (.ireturn, 1) := by decide +kernel
theorem d_Law_law_235 : decode code 235 = .ok (.aload_n 1, 1) := by decide +kernel
theorem d_Law_law_236 : decode code 236 = .ok (.aload_n 0, 1) := by decide +kernel
theorem d_Law_law_237 : decode code 237 = .ok (.iload_n 3, 1) := by decide +kernel
theorem d_Law_law_238 : decode code 238 = .ok (.iconst 1, 1) := by decide +kernel
theorem d_Law_law_239 : decode code 239 = .ok (.iadd, 1) := by decide +kernel
theorem d_Law_law_240 : decode code 240 = .ok (.iaload, 1) := by decide +kernel
theorem d_Law_law_241 : decode code 241 = .ok (.invokevirtual 36, 3) := by decide +kernel
theorem d_Law_law_244 : decode code 244 = .ok (.aload_n 2, 1) := by decide +kernel
theorem d_Law_law_245 : decode code 245 = .ok (.aload_n 0, 1) := by decide +kernel
theorem d_Law_law_246 : decode code 246 = .ok (.iload_n 3, 1) := by decide +kernel
theorem d_Law_law_247 : decode code 247 = .ok (.iconst 1, 1) := by decide +kernel
theorem d_Law_law_248 : decode code 248 = .ok (.iadd, 1) := by decide +kernel
theorem d_Law_law_249 : decode code 249 = .ok (.iaload, 1) := by decide +kernel
theorem d_Law_law_250 : decode code 250 = .ok (.invokevirtual 40, 3) := by decide +kernel
theorem d_Law_law_253 : decode code 253 = .ok (.if_icmp .eq 398, 3) := by decide +kernel
theorem d_Law_law_256 : decode code 256 = .ok (.iconst 0, 1) := by decide +kernel
theorem d_Law_law_257 : decode code 257 = .ok (.ireturn, 1) := by decide +kernel
theorem d_Law_law_258 : decode code 258 = .ok (.aload_n 1, 1) := by decide +kernel
theorem d_Law_law_259 : decode code 259 = .ok (.invokevirtual 41, 3) := by decide +kernel
theorem d_Law_law_262 : decode code 262 = .ok (.aload_n 2, 1) := by decide +kernel
theorem d_Law_law_263 : decode code 263 = .ok (.invokevirtual 45, 3) := by decide +kernel
theorem d_Law_law_266 : decode code 266 = .ok (.if_icmp .eq 385, 3) := by decide +kernel
theorem d_Law_law_269 : decode code 269 = .ok (.iconst 0, 1) := by decide +kernel
theorem d_Law_law_270 : decode code 270 = .ok (.ireturn, 1) := by decide +kernel
theorem d_Law_law_271 : decode code 271 = .ok (.aload_n 1, 1) := by decide +kernel
theorem d_Law_law_272 : decode code 272 = .ok (.aload_n 0, 1) := by decide +kernel
theorem d_Law_law_273 : decode code 273 = .ok (.iload_n 3, 1) := by decide +kernel
theorem d_Law_law_274 : decode code 274 = .ok (.iconst 1, 1) := by decide +kernel
theorem d_Law_law_275 : decode code 275 = .ok (.iadd, 1) := by decide +kernel
theorem d_Law_law_276 : decode code 276 = .ok (.iaload, 1) := by decide +kernel
theorem d_Law_law_277 : decode code 277 = .ok (.invokevirtual 46, 3) := by decide +kernel
theorem d_Law_law_280 : decode code 280 = .ok (.aload_n 2, 1) := by decide +kernel
theorem d_Law_law_281 : decode code 281 = .ok (.aload_n 0, 1) := by decide +kernel
theorem d_Law_law_282 : decode code 282 = .ok (.iload_n 3, 1) := by decide +kernel
theorem d_Law_law_283 : decode code 283 = .ok (.iconst 1, 1) := by decide +kernel
theorem d_Law_law_284 : decode code 284 = .ok (.iadd, 1) := by decide +kernel
theorem d_Law_law_285 : decode code 285 = .ok (.iaload, 1) := by decide +kernel
theorem d_Law_law_286 : decode code 286 = .ok (.invokevirtual 49, 3) := by decide +kernel
theorem d_Law_law_289 : decode code 289 = .ok (.if_icmp .eq 362, 3) := by decide +kernel
theorem d_Law_law_292 : decode code 292 = .ok (.iconst 0, 1) := by decide +kernel
theorem d_Law_law_293 : decode code 293 = .ok (.ireturn, 1) := by decide +kernel
theorem d_Law_law_294 : decode code 294 = .ok (.aload_n 1, 1) := by decide +kernel
theorem d_Law_law_295 : decode code 295 = .ok (.aload_n 0, 1) := by decide +kernel
theorem d_Law_law_296 : decode code 296 = .ok (.iload_n 3, 1) := by decide +kernel
theorem d_Law_law_297 : decode code 297 = .ok (.iconst 1, 1) := by decide +kernel
theorem d_Law_law_298 : decode code 298 = .ok (.iadd, 1) := by decide +kernel
theorem d_Law_law_299 : decode code 299 = .ok (.iaload, 1) := by decide +kernel
theorem d_Law_law_300 : decode code 300 = .ok (.aload_n 0, 1) := by decide +kernel
theorem d_Law_law_301 : decode code 301 = .ok (.iload_n 3, 1) := by decide +kernel
theorem d_Law_law_302 : decode code 302 = .ok (.iconst 2, 1) := by decide +kernel
theorem d_Law_law_303 : decode code 303 = .ok (.iadd, 1) := by decide +kernel
theorem d_Law_law_304 : decode code 304 = .ok (.iaload, 1) := by decide +kernel
theorem d_Law_law_305 : decode code 305 = .ok (.aload_n 0, 1) := by decide +kernel
theorem d_Law_law_306 : decode code 306 = .ok (.iload_n 3, 1) := by decide +kernel
theorem d_Law_law_307 : decode code 307 = .ok (.iconst 3, 1) := by decide +kernel
theorem d_Law_law_308 : decode code 308 = .ok (.iadd, 1) := by decide +kernel
theorem d_Law_law_309 : decode code 309 = .ok (.iaload, 1) := by decide +kernel
theorem d_Law_law_310 : decode code 310 = .ok (.invokevirtual 50, 3) := by decide +kernel
theorem d_Law_law_313 : decode code 313 = .ok (.aload_n 2, 1) := by decide +kernel
theorem d_Law_law_314 : decode code 314 = .ok (.aload_n 0, 1) := by decide +kernel
theorem d_Law_law_315 : decode code 315 = .ok (.iload_n 3, 1) := by decide +kernel
theorem d_Law_law_316 : decode code 316 = .ok (.iconst 1, 1) := by decide +kernel
theorem d_Law_law_317 : decode code 317 = .ok (.iadd, 1) := by decide +kernel
theorem d_Law_law_318 : decode code 318 = .ok (.iaload, 1) := by decide +kernel
theorem d_Law_law_319 : decode code 319 = .ok (.aload_n 0, 1) := by decide +kernel
theorem d_Law_law_320 : decode code 320 = .ok (.iload_n 3, 1) := by decide +kernel
theorem d_Law_law_321 : decode code 321 = .ok (.iconst 2, 1) := by decide +kernel
theorem d_Law_law_322 : decode code 322 = .ok (.iadd, 1) := by decide +kernel
theorem d_Law_law_323 : decode code 323 = .ok (.iaload, 1) := by decide +kernel
theorem d_Law_law_324 : decode code 324 = .ok (.aload_n 0, 1) := by decide +kernel
theorem d_Law_law_325 : decode code 325 = .ok (.iload_n 3, 1) := by decide +kernel
theorem d_Law_law_326 : decode code 326 = .ok (.iconst 3, 1) := by decide +kernel
theorem d_Law_law_327 : decode code 327 = .ok (.iadd, 1) := by decide +kernel
theorem d_Law_law_328 : decode code 328 = .ok (.iaload, 1) := by decide +kernel
theorem d_Law_law_329 : decode code 329 = .ok (.invokevirtual 54, 3) := by decide +kernel
theorem d_Law_law_332 : decode code 332 = .ok (.if_icmp .eq 319, 3) := by decide +kernel
theorem d_Law_law_335 : decode code 335 = .ok (.iconst 0, 1) := by decide +kernel
theorem d_Law_law_336 : decode code 336 = .ok (.ireturn, 1) := by decide +kernel
theorem d_Law_law_337 : decode code 337 = .ok (.aload_n 1, 1) := by decide +kernel
theorem d_Law_law_338 : decode code 338 = .ok (.invokevirtual 55, 3) := by decide +kernel
theorem d_Law_law_341 : decode code 341 = .ok (.aload_n 2, 1) := by decide +kernel
theorem d_Law_law_342 : decode code 342 = .ok (.invokevirtual 58, 3) := by decide +kernel
theorem d_Law_law_345 : decode code 345 = .ok (.if_icmp .eq 306, 3) := by decide +kernel
theorem d_Law_law_348 : decode code 348 = .ok (.iconst 0, 1) := by decide +kernel
theorem d_Law_law_349 : decode code 349 = .ok (.ireturn, 1) := by decide +kernel
theorem d_Law_law_350 : decode code 350 = .ok (.aload_n 1, 1) := by decide +kernel
theorem d_Law_law_351 : decode code 351 = .ok (.invokevirtual 59, 3) := by decide +kernel
theorem d_Law_law_354 : decode code 354 = .ok (.aload_n 2, 1) := by decide +kernel
theorem d_Law_law_355 : decode code 355 = .ok (.invokevirtual 62, 3) := by decide +kernel
theorem d_Law_law_358 : decode code 358 = .ok (.if_icmp .eq 293, 3) := by decide +kernel
theorem d_Law_law_361 : decode code 361 = .ok (.iconst 0, 1) := by decide +kernel
theorem d_Law_law_362 : decode code 362 = .ok (.ireturn, 1) := by decide +kernel
theorem d_Law_law_363 : decode code 363 = .ok (.aload_n 1, 1) := by decide +kernel
theorem d_Law_law_364 : decode code 364 = .ok (.invokevirtual 63, 3) := by decide +kernel
theorem d_Law_law_367 : decode code 367 = .ok (.aload_n 2, 1) := by decide +kernel
theorem d_Law_law_368 : decode code 368 = .ok (.invokevirtual 66, 3) := by decide +kernel
theorem d_Law_law_371 : decode code 371 = .ok (.if_icmp .eq 280, 3) := by decide +kernel
theorem d_Law_law_374 : decode code 374 = .ok (.iconst 0, 1) := by decide +kernel
theorem d_Law_law_375 : decode code 375 = .ok (.ireturn, 1) := by decide +kernel
theorem d_Law_law_376 : decode code 376 = .ok (.aload_n 1, 1) := by decide +kernel
theorem d_Law_law_377 : decode code 377 = .ok (.invokevirtual 67, 3) := by decide +kernel
theorem d_Law_law_380 : decode code 380 = .ok (.aload_n 2, 1) := by decide +kernel
theorem d_Law_law_381 : decode code 381 = .ok (.invokevirtual 70, 3) := by decide +kernel
theorem d_Law_law_384 : decode code 384 = .ok (.if_icmp .eq 267, 3) := by decide +kernel
theorem d_Law_law_387 : decode code 387 = .ok (.iconst 0, 1) := by decide +kernel
theorem d_Law_law_388 : decode code 388 = .ok (.ireturn, 1) := by decide +kernel
theorem d_Law_law_389 : decode code 389 = .ok (.aload_n 1, 1) := by decide +kernel
theorem d_Law_law_390 : decode code 390 = .ok (.aload_n 0, 1) := by decide +kernel
theorem d_Law_law_391 : decode code 391 = .ok (.iload_n 3, 1) := by decide +kernel
theorem d_Law_law_392 : decode code 392 = .ok (.iconst 1, 1) := by decide +kernel
theorem d_Law_law_393 : decode code 393 = .ok (.iadd, 1) := by decide +kernel
theorem d_Law_law_394 : decode code 394 = .ok (.iaload, 1) := by decide +kernel
theorem d_Law_law_395 : decode code 395 = .ok (.aload_n 0, 1) := by decide +kernel
theorem d_Law_law_396 : decode code 396 = .ok (.iload_n 3, 1) := by decide +kernel
theorem d_Law_law_397 : decode code 397 = .ok (.iconst 2, 1) := by decide +kernel
theorem d_Law_law_398 : decode code 398 = .ok (.iadd, 1) := by decide +kernel
theorem d_Law_law_399 : decode code 399 = .ok (.iaload, 1) := by decide +kernel
theorem d_Law_law_400 : decode code 400 = .ok (.invokevirtual 71, 3) := by decide +kernel
theorem d_Law_law_403 : decode code 403 = .ok (.aload_n 2, 1) := by decide +kernel
theorem d_Law_law_404 : decode code 404 = .ok (.aload_n 0, 1) := by decide +kernel
theorem d_Law_law_405 : decode code 405 = .ok (.iload_n 3, 1) := by decide +kernel
theorem d_Law_law_406 : decode code 406 = .ok (.iconst 1, 1) := by decide +kernel
theorem d_Law_law_407 : decode code 407 = .ok (.iadd, 1) := by decide +kernel
theorem d_Law_law_408 : decode code 408 = .ok (.iaload, 1) := by decide +kernel
theorem d_Law_law_409 : decode code 409 = .ok (.aload_n 0, 1) := by decide +kernel
theorem d_Law_law_410 : decode code 410 = .ok (.iload_n 3, 1) := by decide +kernel
theorem d_Law_law_411 : decode code 411 = .ok (.iconst 2, 1) := by decide +kernel
theorem d_Law_law_412 : decode code 412 = .ok (.iadd, 1) := by decide +kernel
theorem d_Law_law_413 : decode code 413 = .ok (.iaload, 1) := by decide +kernel
theorem d_Law_law_414 : decode code 414 = .ok (.invokevirtual 75, 3) := by decide +kernel
theorem d_Law_law_417 : decode code 417 = .ok (.if_icmp .eq 234, 3) := by decide +kernel
theorem d_Law_law_420 : decode code 420 = .ok (.iconst 0, 1) := by decide +kernel
theorem d_Law_law_421 : decode code 421 = .ok (.ireturn, 1) := by decide +kernel
theorem d_Law_law_422 : decode code 422 = .ok (.aload_n 1, 1) := by decide +kernel
theorem d_Law_law_423 : decode code 423 = .ok (.aload_n 0, 1) := by decide +kernel
theorem d_Law_law_424 : decode code 424 = .ok (.iload_n 3, 1) := by decide +kernel
theorem d_Law_law_425 : decode code 425 = .ok (.iconst 1, 1) := by decide +kernel
theorem d_Law_law_426 : decode code 426 = .ok (.iadd, 1) := by decide +kernel
theorem d_Law_law_427 : decode code 427 = .ok (.iaload, 1) := by decide +kernel
theorem d_Law_law_428 : decode code 428 = .ok (.aload_n 0, 1) := by decide +kernel
theorem d_Law_law_429 : decode code 429 = .ok (.iload_n 3, 1) := by decide +kernel
theorem d_Law_law_430 : decode code 430 = .ok (.iconst 2, 1) := by decide +kernel
theorem d_Law_law_431 : decode code 431 = .ok (.iadd, 1) := by decide +kernel
theorem d_Law_law_432 : decode code 432 = .ok (.iaload, 1) := by decide +kernel
theorem d_Law_law_433 : decode code 433 = .ok (.invokevirtual 76, 3) := by decide +kernel
theorem d_Law_law_436 : decode code 436 = .ok (.aload_n 2, 1) := by decide +kernel
theorem d_Law_law_437 : decode code 437 = .ok (.aload_n 0, 1) := by decide +kernel
theorem d_Law_law_438 : decode code 438 = .ok (.iload_n 3, 1) := by decide +kernel
theorem d_Law_law_439 : decode code 439 = .ok (.iconst 1, 1) := by decide +kernel
theorem d_Law_law_440 : decode code 440 = .ok (.iadd, 1) := by decide +kernel
theorem d_Law_law_441 : decode code 441 = .ok (.iaload, 1) := by decide +kernel
theorem d_Law_law_442 : decode code 442 = .ok (.aload_n 0, 1) := by decide +kernel
theorem d_Law_law_443 : decode code 443 = .ok (.iload_n 3, 1) := by decide +kernel
theorem d_Law_law_444 : decode code 444 = .ok (.iconst 2, 1) := by decide +kernel
theorem d_Law_law_445 : decode code 445 = .ok (.iadd, 1) := by decide +kernel
theorem d_Law_law_446 : decode code 446 = .ok (.iaload, 1) := by decide +kernel
theorem d_Law_law_447 : decode code 447 = .ok (.invokevirtual 79, 3) := by decide +kernel
theorem d_Law_law_450 : decode code 450 = .ok (.if_icmp .eq 201, 3) := by decide +kernel
theorem d_Law_law_453 : decode code 453 = .ok (.iconst 0, 1) := by decide +kernel
theorem d_Law_law_454 : decode code 454 = .ok (.ireturn, 1) := by decide +kernel
theorem d_Law_law_455 : decode code 455 = .ok (.aload_n 1, 1) := by decide +kernel
theorem d_Law_law_456 : decode code 456 = .ok (.aload_n 0, 1) := by decide +kernel
theorem d_Law_law_457 : decode code 457 = .ok (.iload_n 3, 1) := by decide +kernel
theorem d_Law_law_458 : decode code 458 = .ok (.iconst 1, 1) := by decide +kernel
theorem d_Law_law_459 : decode code 459 = .ok (.iadd, 1) := by decide +kernel
theorem d_Law_law_460 : decode code 460 = .ok (.iaload, 1) := by decide +kernel
theorem d_Law_law_461 : decode code 461 = .ok (.aload_n 0, 1) := by decide +kernel
theorem d_Law_law_462 : decode code 462 = .ok (.iload_n 3, 1) := by decide +kernel
theorem d_Law_law_463 : decode code 463 = .ok (.iconst 2, 1) := by decide +kernel
theorem d_Law_law_464 : decode code 464 = .ok (.iadd, 1) := by decide +kernel
theorem d_Law_law_465 : decode code 465 = .ok (.iaload, 1) := by decide +kernel
theorem d_Law_law_466 : decode code 466 = .ok (.invokevirtual 80, 3) := by decide +kernel
theorem d_Law_law_469 : decode code 469 = .ok (.aload_n 2, 1) := by decide +kernel
theorem d_Law_law_470 : decode code 470 = .ok (.aload_n 0, 1) := by decide +kernel
theorem d_Law_law_471 : decode code 471 = .ok (.iload_n 3, 1) := by decide +kernel
theorem d_Law_law_472 : decode code 472 = .ok (.iconst 1, 1) := by decide +kernel
theorem d_Law_law_473 : decode code 473 = .ok (.iadd, 1) := by decide +kernel
theorem d_Law_law_474 : decode code 474 = .ok (.iaload, 1) := by decide +kernel
theorem d_Law_law_475 : decode code 475 = .ok (.aload_n 0, 1) := by decide +kernel
theorem d_Law_law_476 : decode code 476 = .ok (.iload_n 3, 1) := by decide +kernel
theorem d_Law_law_477 : decode code 477 = .ok (.iconst 2, 1) := by decide +kernel
theorem d_Law_law_478 : decode code 478 = .ok (.iadd, 1) := by decide +kernel
theorem d_Law_law_479 : decode code 479 = .ok (.iaload, 1) := by decide +kernel
theorem d_Law_law_480 : decode code 480 = .ok (.invokevirtual 83, 3) := by decide +kernel
theorem d_Law_law_483 : decode code 483 = .ok (.if_icmp .eq 168, 3) := by decide +kernel
theorem d_Law_law_486 : decode code 486 = .ok (.iconst 0, 1) := by decide +kernel
theorem d_Law_law_487 : decode code 487 = .ok (.ireturn, 1) := by decide +kernel
theorem d_Law_law_488 : decode code 488 = .ok (.aload_n 1, 1) := by decide +kernel
theorem d_Law_law_489 : decode code 489 = .ok (.aload_n 0, 1) := by decide +kernel
theorem d_Law_law_490 : decode code 490 = .ok (.iload_n 3, 1) := by decide +kernel
theorem d_Law_law_491 : decode code 491 = .ok (.iconst 1, 1) := by decide +kernel
theorem d_Law_law_492 : decode code 492 = .ok (.iadd, 1) := by decide +kernel
theorem d_Law_law_493 : decode code 493 = .ok (.iaload, 1) := by decide +kernel
theorem d_Law_law_494 : decode code 494 = .ok (.invokevirtual 84, 3) := by decide +kernel
theorem d_Law_law_497 : decode code 497 = .ok (.aload_n 2, 1) := by decide +kernel
theorem d_Law_law_498 : decode code 498 = .ok (.aload_n 0, 1) := by decide +kernel
theorem d_Law_law_499 : decode code 499 = .ok (.iload_n 3, 1) := by decide +kernel
theorem d_Law_law_500 : decode code 500 = .ok (.iconst 1, 1) := by decide +kernel
theorem d_Law_law_501 : decode code 501 = .ok (.iadd, 1) := by decide +kernel
theorem d_Law_law_502 : decode code 502 = .ok (.iaload, 1) := by decide +kernel
theorem d_Law_law_503 : decode code 503 = .ok (.invokevirtual 88, 3) := by decide +kernel
theorem d_Law_law_506 : decode code 506 = .ok (.lcmp, 1) := by decide +kernel
theorem d_Law_law_507 : decode code 507 = .ok (.ifCond .eq 144, 3) := by decide +kernel
theorem d_Law_law_510 : decode code 510 = .ok (.iconst 0, 1) := by decide +kernel
theorem d_Law_law_511 : decode code 511 = .ok (.ireturn, 1) := by decide +kernel
theorem d_Law_law_512 : decode code 512 = .ok (.aload_n 1, 1) := by decide +kernel
theorem d_Law_law_513 : decode code 513 = .ok (.aload_n 0, 1) := by decide +kernel
theorem d_Law_law_514 : decode code 514 = .ok (.iload_n 3, 1) := by decide +kernel
theorem d_Law_law_515 : decode code 515 = .ok (.iconst 1, 1) := by decide +kernel
theorem d_Law_law_516 : decode code 516 = .ok (.iadd, 1) := by decide +kernel
theorem d_Law_law_517 : decode code 517 = .ok (.iaload, 1) := by decide +kernel
theorem d_Law_law_518 : decode code 518 = .ok (.invokevirtual 89, 3) := by decide +kernel
theorem d_Law_law_521 : decode code 521 = .ok (.aload_n 2, 1) := by decide +kernel
theorem d_Law_law_522 : decode code 522 = .ok (.aload_n 0, 1) := by decide +kernel
theorem d_Law_law_523 : decode code 523 = .ok (.iload_n 3, 1) := by decide +kernel
theorem d_Law_law_524 : decode code 524 = .ok (.iconst 1, 1) := by decide +kernel
theorem d_Law_law_525 : decode code 525 = .ok (.iadd, 1) := by decide +kernel
theorem d_Law_law_526 : decode code 526 = .ok (.iaload, 1) := by decide +kernel
theorem d_Law_law_527 : decode code 527 = .ok (.invokevirtual 93, 3) := by decide +kernel
theorem d_Law_law_530 : decode code 530 = .ok (.if_icmp .eq 121, 3) := by decide +kernel
theorem d_Law_law_533 : decode code 533 = .ok (.iconst 0, 1) := by decide +kernel
theorem d_Law_law_534 : decode code 534 = .ok (.ireturn, 1) := by decide +kernel
theorem d_Law_law_535 : decode code 535 = .ok (.aload_n 1, 1) := by decide +kernel
theorem d_Law_law_536 : decode code 536 = .ok (.aload_n 0, 1) := by decide +kernel
theorem d_Law_law_537 : decode code 537 = .ok (.iload_n 3, 1) := by decide +kernel
theorem d_Law_law_538 : decode code 538 = .ok (.iconst 1, 1) := by decide +kernel
theorem d_Law_law_539 : decode code 539 = .ok (.iadd, 1) := by decide +kernel
theorem d_Law_law_540 : decode code 540 = .ok (.iaload, 1) := by decide +kernel
theorem d_Law_law_541 : decode code 541 = .ok (.invokevirtual 94, 3) := by decide +kernel
theorem d_Law_law_544 : decode code 544 = .ok (.aload_n 2, 1) := by decide +kernel
theorem d_Law_law_545 : decode code 545 = .ok (.aload_n 0, 1) := by decide +kernel
theorem d_Law_law_546 : decode code 546 = .ok (.iload_n 3, 1) := by decide +kernel
theorem d_Law_law_547 : decode code 547 = .ok (.iconst 1, 1) := by decide +kernel
theorem d_Law_law_548 : decode code 548 = .ok (.iadd, 1) := by decide +kernel
theorem d_Law_law_549 : decode code 549 = .ok (.iaload, 1) := by decide +kernel
theorem d_Law_law_550 : decode code 550 = .ok (.invokevirtual 97, 3) := by decide +kernel
theorem d_Law_law_553 : decode code 553 = .ok (.if_icmp .eq 98, 3) := by decide +kernel
theorem d_Law_law_556 : decode code 556 = .ok (.iconst 0, 1) := by decide +kernel
theorem d_Law_law_557 : decode code 557 = .ok (.ireturn, 1) := by decide +kernel
theorem d_Law_law_558 : decode code 558 = .ok (.aload_n 1, 1) := by decide +kernel
theorem d_Law_law_559 : decode code 559 = .ok (.aload_n 0, 1) := by decide +kernel
theorem d_Law_law_560 : decode code 560 = .ok (.iload_n 3, 1) := by decide +kernel
theorem d_Law_law_561 : decode code 561 = .ok (.iconst 1, 1) := by decide +kernel
theorem d_Law_law_562 : decode code 562 = .ok (.iadd, 1) := by decide +kernel
theorem d_Law_law_563 : decode code 563 = .ok (.iaload, 1) := by decide +kernel
theorem d_Law_law_564 : decode code 564 = .ok (.invokevirtual 98, 3) := by decide +kernel
theorem d_Law_law_567 : decode code 567 = .ok (.aload_n 2, 1) := by decide +kernel
theorem d_Law_law_568 : decode code 568 = .ok (.aload_n 0, 1) := by decide +kernel
theorem d_Law_law_569 : decode code 569 = .ok (.iload_n 3, 1) := by decide +kernel
theorem d_Law_law_570 : decode code 570 = .ok (.iconst 1, 1) := by decide +kernel
theorem d_Law_law_571 : decode code 571 = .ok (.iadd, 1) := by decide +kernel
theorem d_Law_law_572 : decode code 572 = .ok (.iaload, 1) := by decide +kernel
theorem d_Law_law_573 : decode code 573 = .ok (.invokevirtual 101, 3) := by decide +kernel
theorem d_Law_law_576 : decode code 576 = .ok (.if_icmp .eq 75, 3) := by decide +kernel
theorem d_Law_law_579 : decode code 579 = .ok (.iconst 0, 1) := by decide +kernel
theorem d_Law_law_580 : decode code 580 = .ok (.ireturn, 1) := by decide +kernel
theorem d_Law_law_581 : decode code 581 = .ok (.aload_n 1, 1) := by decide +kernel
theorem d_Law_law_582 : decode code 582 = .ok (.aload_n 0, 1) := by decide +kernel
theorem d_Law_law_583 : decode code 583 = .ok (.iload_n 3, 1) := by decide +kernel
theorem d_Law_law_584 : decode code 584 = .ok (.iconst 1, 1) := by decide +kernel
theorem d_Law_law_585 : decode code 585 = .ok (.iadd, 1) := by decide +kernel
theorem d_Law_law_586 : decode code 586 = .ok (.iaload, 1) := by decide +kernel
theorem d_Law_law_587 : decode code 587 = .ok (.aload_n 0, 1) := by decide +kernel
theorem d_Law_law_588 : decode code 588 = .ok (.iload_n 3, 1) := by decide +kernel
theorem d_Law_law_589 : decode code 589 = .ok (.iconst 2, 1) := by decide +kernel
theorem d_Law_law_590 : decode code 590 = .ok (.iadd, 1) := by decide +kernel
theorem d_Law_law_591 : decode code 591 = .ok (.iaload, 1) := by decide +kernel
theorem d_Law_law_592 : decode code 592 = .ok (.invokevirtual 102, 3) := by decide +kernel
theorem d_Law_law_595 : decode code 595 = .ok (.aload_n 2, 1) := by decide +kernel
theorem d_Law_law_596 : decode code 596 = .ok (.aload_n 0, 1) := by decide +kernel
theorem d_Law_law_597 : decode code 597 = .ok (.iload_n 3, 1) := by decide +kernel
theorem d_Law_law_598 : decode code 598 = .ok (.iconst 1, 1) := by decide +kernel
theorem d_Law_law_599 : decode code 599 = .ok (.iadd, 1) := by decide +kernel
theorem d_Law_law_600 : decode code 600 = .ok (.iaload, 1) := by decide +kernel
theorem d_Law_law_601 : decode code 601 = .ok (.aload_n 0, 1) := by decide +kernel
theorem d_Law_law_602 : decode code 602 = .ok (.iload_n 3, 1) := by decide +kernel
theorem d_Law_law_603 : decode code 603 = .ok (.iconst 2, 1) := by decide +kernel
theorem d_Law_law_604 : decode code 604 = .ok (.iadd, 1) := by decide +kernel
theorem d_Law_law_605 : decode code 605 = .ok (.iaload, 1) := by decide +kernel
theorem d_Law_law_606 : decode code 606 = .ok (.invokevirtual 105, 3) := by decide +kernel
theorem d_Law_law_609 : decode code 609 = .ok (.if_icmp .eq 42, 3) := by decide +kernel
theorem d_Law_law_612 : decode code 612 = .ok (.iconst 0, 1) := by decide +kernel
theorem d_Law_law_613 : decode code 613 = .ok (.ireturn, 1) := by decide +kernel
theorem d_Law_law_614 : decode code 614 = .ok (.aload_n 1, 1) := by decide +kernel
theorem d_Law_law_615 : decode code 615 = .ok (.aload_n 0, 1) := by decide +kernel
theorem d_Law_law_616 : decode code 616 = .ok (.iload_n 3, 1) := by decide +kernel
theorem d_Law_law_617 : decode code 617 = .ok (.iconst 1, 1) := by decide +kernel
theorem d_Law_law_618 : decode code 618 = .ok (.iadd, 1) := by decide +kernel
theorem d_Law_law_619 : decode code 619 = .ok (.iaload, 1) := by decide +kernel
theorem d_Law_law_620 : decode code 620 = .ok (.invokevirtual 106, 3) := by decide +kernel
theorem d_Law_law_623 : decode code 623 = .ok (.aload_n 2, 1) := by decide +kernel
theorem d_Law_law_624 : decode code 624 = .ok (.aload_n 0, 1) := by decide +kernel
theorem d_Law_law_625 : decode code 625 = .ok (.iload_n 3, 1) := by decide +kernel
theorem d_Law_law_626 : decode code 626 = .ok (.iconst 1, 1) := by decide +kernel
theorem d_Law_law_627 : decode code 627 = .ok (.iadd, 1) := by decide +kernel
theorem d_Law_law_628 : decode code 628 = .ok (.iaload, 1) := by decide +kernel
theorem d_Law_law_629 : decode code 629 = .ok (.invokevirtual 109, 3) := by decide +kernel
theorem d_Law_law_632 : decode code 632 = .ok (.lcmp, 1) := by decide +kernel
theorem d_Law_law_633 : decode code 633 = .ok (.ifCond .eq 18, 3) := by decide +kernel
theorem d_Law_law_636 : decode code 636 = .ok (.iconst 0, 1) := by decide +kernel
theorem d_Law_law_637 : decode code 637 = .ok (.ireturn, 1) := by decide +kernel
theorem d_Law_law_638 : decode code 638 = .ok (.aload_n 1, 1) := by decide +kernel
theorem d_Law_law_639 : decode code 639 = .ok (.invokevirtual 110, 3) := by decide +kernel
theorem d_Law_law_642 : decode code 642 = .ok (.aload_n 2, 1) := by decide +kernel
theorem d_Law_law_643 : decode code 643 = .ok (.invokevirtual 113, 3) := by decide +kernel
theorem d_Law_law_646 : decode code 646 = .ok (.if_icmp .eq 5, 3) := by decide +kernel
theorem d_Law_law_649 : decode code 649 = .ok (.iconst 0, 1) := by decide +kernel
theorem d_Law_law_650 : decode code 650 = .ok (.ireturn, 1) := by decide +kernel
theorem d_Law_law_651 : decode code 651 = .ok (.iinc 3 4, 3) := by decide +kernel
theorem d_Law_law_654 : decode code 654 = .ok (.goto (-626), 3) := by decide +kernel
theorem d_Law_law_657 : decode code 657 = .ok (.iconst 1, 1) := by decide +kernel
theorem d_Law_law_658 : decode code 658 = .ok (.ireturn, 1) := by decide +kernel
theorem d_Law_cell_0 : decode method_2_code 0 = .ok (.iload_n 1, 1) := by decide +kernel
theorem d_Law_cell_1 : decode method_2_code 1 = .ok (.aload_n 0, 1) := by decide +kernel
theorem d_Law_cell_2 : decode method_2_code 2 = .ok (.arraylength, 1) := by decide +kernel
theorem d_Law_cell_3 : decode method_2_code 3 = .ok (.if_icmp .ge 9, 3) := by decide +kernel
theorem d_Law_cell_6 : decode method_2_code 6 = .ok (.aload_n 0, 1) := by decide +kernel
theorem d_Law_cell_7 : decode method_2_code 7 = .ok (.iload_n 1, 1) := by decide +kernel
theorem d_Law_cell_8 : decode method_2_code 8 = .ok (.iaload, 1) := by decide +kernel
theorem d_Law_cell_9 : decode method_2_code 9 = .ok (.goto 4, 3) := by decide +kernel
theorem d_Law_cell_12 : decode method_2_code 12 = .ok (.iconst 0, 1) := by decide +kernel
theorem d_Law_cell_13 : decode method_2_code 13 = .ok (.ireturn, 1) := by decide +kernel
theorem cc_Law_9 : zq_CC "RiichiTableLaw" 9 y_Law_cell 2 := ⟨Or.inl (zq_in (zq_c4 (List.mem_of_getElem? (i := 57) rfl)) rfl), (zq_in (zq_c4 (List.mem_of_getElem? (i := 59) rfl)) rfl), (zq_in (zq_c1 (List.mem_of_getElem? (i := 0) rfl)) rfl), ⟨by decide, by decide, by decide +kernel⟩, by decide⟩
theorem cs_Law_cell : Cond.static y_Law_cell.1 ∈ zq_ws := (zq_in (zq_c4 (List.mem_of_getElem? (i := 58) rfl)) rfl)
theorem cc_Law_15 : zq_CC "RiichiTableLaw" 15 y_Table_init 1 := ⟨Or.inl (zq_in (zq_c1 (List.mem_of_getElem? (i := 15) rfl)) rfl), (zq_in (zq_c1 (List.mem_of_getElem? (i := 17) rfl)) rfl), (zq_in (zq_c1 (List.mem_of_getElem? (i := 1) rfl)) rfl), ⟨by decide, by decide, by decide +kernel⟩, by decide⟩
theorem cc_Law_20 : zq_CC "RiichiTableLaw" 20 y_Model_init 1 := ⟨Or.inl (zq_in (zq_c4 (List.mem_of_getElem? (i := 62) rfl)) rfl), (zq_in (zq_c4 (List.mem_of_getElem? (i := 64) rfl)) rfl), (zq_in (zq_c1 (List.mem_of_getElem? (i := 7) rfl)) rfl), ⟨by decide, by decide, by decide +kernel⟩, by decide⟩
theorem cc_Law_21 : zq_CC "RiichiTableLaw" 21 y_Table_arrange 2 := ⟨Or.inl (zq_in (zq_c2 (List.mem_of_getElem? (i := 45) rfl)) rfl), (zq_in (zq_c2 (List.mem_of_getElem? (i := 48) rfl)) rfl), (zq_in (zq_c1 (List.mem_of_getElem? (i := 1) rfl)) rfl), ⟨by decide, by decide, by decide +kernel⟩, by decide⟩
theorem cv_Table_arrange : Cond.instanceMethod y_Table_arrange.1 ∈ zq_ws ∧ Cond.selects y_Table_arrange.1.cls y_Table_arrange.1 y_Table_arrange.1 ∈ zq_ws ∧ zq_cl[0]? = some (y_Table_arrange.1.cls, zq_T_Table, 14) := ⟨(zq_in (zq_c2 (List.mem_of_getElem? (i := 46) rfl)) rfl), (zq_in (zq_c2 (List.mem_of_getElem? (i := 47) rfl)) rfl), rfl⟩
theorem cc_Law_25 : zq_CC "RiichiTableLaw" 25 y_Model_arrange 2 := ⟨Or.inl (zq_in (zq_c4 (List.mem_of_getElem? (i := 228) rfl)) rfl), (zq_in (zq_c4 (List.mem_of_getElem? (i := 231) rfl)) rfl), (zq_in (zq_c1 (List.mem_of_getElem? (i := 7) rfl)) rfl), ⟨by decide, by decide, by decide +kernel⟩, by decide⟩
theorem cv_Model_arrange : Cond.instanceMethod y_Model_arrange.1 ∈ zq_ws ∧ Cond.selects y_Model_arrange.1.cls y_Model_arrange.1 y_Model_arrange.1 ∈ zq_ws ∧ zq_cl[6]? = some (y_Model_arrange.1.cls, zq_T_Model, 50) := ⟨(zq_in (zq_c4 (List.mem_of_getElem? (i := 229) rfl)) rfl), (zq_in (zq_c4 (List.mem_of_getElem? (i := 230) rfl)) rfl), rfl⟩
theorem cc_Law_26 : zq_CC "RiichiTableLaw" 26 y_Table_deal 0 := ⟨Or.inl (zq_in (zq_c2 (List.mem_of_getElem? (i := 56) rfl)) rfl), (zq_in (zq_c2 (List.mem_of_getElem? (i := 59) rfl)) rfl), (zq_in (zq_c1 (List.mem_of_getElem? (i := 1) rfl)) rfl), ⟨by decide, by decide, by decide +kernel⟩, by decide⟩
theorem cv_Table_deal : Cond.instanceMethod y_Table_deal.1 ∈ zq_ws ∧ Cond.selects y_Table_deal.1.cls y_Table_deal.1 y_Table_deal.1 ∈ zq_ws ∧ zq_cl[0]? = some (y_Table_deal.1.cls, zq_T_Table, 14) := ⟨(zq_in (zq_c2 (List.mem_of_getElem? (i := 57) rfl)) rfl), (zq_in (zq_c2 (List.mem_of_getElem? (i := 58) rfl)) rfl), rfl⟩
theorem cc_Law_30 : zq_CC "RiichiTableLaw" 30 y_Model_deal 0 := ⟨Or.inl (zq_in (zq_c4 (List.mem_of_getElem? (i := 232) rfl)) rfl), (zq_in (zq_c4 (List.mem_of_getElem? (i := 235) rfl)) rfl), (zq_in (zq_c1 (List.mem_of_getElem? (i := 7) rfl)) rfl), ⟨by decide, by decide, by decide +kernel⟩, by decide⟩
theorem cv_Model_deal : Cond.instanceMethod y_Model_deal.1 ∈ zq_ws ∧ Cond.selects y_Model_deal.1.cls y_Model_deal.1 y_Model_deal.1 ∈ zq_ws ∧ zq_cl[6]? = some (y_Model_deal.1.cls, zq_T_Model, 50) := ⟨(zq_in (zq_c4 (List.mem_of_getElem? (i := 233) rfl)) rfl), (zq_in (zq_c4 (List.mem_of_getElem? (i := 234) rfl)) rfl), rfl⟩
theorem cc_Law_31 : zq_CC "RiichiTableLaw" 31 y_Table_discard 2 := ⟨Or.inl (zq_in (zq_c2 (List.mem_of_getElem? (i := 87) rfl)) rfl), (zq_in (zq_c2 (List.mem_of_getElem? (i := 90) rfl)) rfl), (zq_in (zq_c1 (List.mem_of_getElem? (i := 1) rfl)) rfl), ⟨by decide, by decide, by decide +kernel⟩, by decide⟩
theorem cv_Table_discard : Cond.instanceMethod y_Table_discard.1 ∈ zq_ws ∧ Cond.selects y_Table_discard.1.cls y_Table_discard.1 y_Table_discard.1 ∈ zq_ws ∧ zq_cl[0]? = some (y_Table_discard.1.cls, zq_T_Table, 14) := ⟨(zq_in (zq_c2 (List.mem_of_getElem? (i := 88) rfl)) rfl), (zq_in (zq_c2 (List.mem_of_getElem? (i := 89) rfl)) rfl), rfl⟩
theorem cc_Law_35 : zq_CC "RiichiTableLaw" 35 y_Model_discard 2 := ⟨Or.inl (zq_in (zq_c5 (List.mem_of_getElem? (i := 58) rfl)) rfl), (zq_in (zq_c5 (List.mem_of_getElem? (i := 61) rfl)) rfl), (zq_in (zq_c1 (List.mem_of_getElem? (i := 7) rfl)) rfl), ⟨by decide, by decide, by decide +kernel⟩, by decide⟩
theorem cv_Model_discard : Cond.instanceMethod y_Model_discard.1 ∈ zq_ws ∧ Cond.selects y_Model_discard.1.cls y_Model_discard.1 y_Model_discard.1 ∈ zq_ws ∧ zq_cl[6]? = some (y_Model_discard.1.cls, zq_T_Model, 50) := ⟨(zq_in (zq_c5 (List.mem_of_getElem? (i := 59) rfl)) rfl), (zq_in (zq_c5 (List.mem_of_getElem? (i := 60) rfl)) rfl), rfl⟩
theorem cc_Law_36 : zq_CC "RiichiTableLaw" 36 y_Table_quad 1 := ⟨Or.inl (zq_in (zq_c3 (List.mem_of_getElem? (i := 210) rfl)) rfl), (zq_in (zq_c3 (List.mem_of_getElem? (i := 213) rfl)) rfl), (zq_in (zq_c1 (List.mem_of_getElem? (i := 1) rfl)) rfl), ⟨by decide, by decide, by decide +kernel⟩, by decide⟩
theorem cv_Table_quad : Cond.instanceMethod y_Table_quad.1 ∈ zq_ws ∧ Cond.selects y_Table_quad.1.cls y_Table_quad.1 y_Table_quad.1 ∈ zq_ws ∧ zq_cl[0]? = some (y_Table_quad.1.cls, zq_T_Table, 14) := ⟨(zq_in (zq_c3 (List.mem_of_getElem? (i := 211) rfl)) rfl), (zq_in (zq_c3 (List.mem_of_getElem? (i := 212) rfl)) rfl), rfl⟩
theorem cc_Law_40 : zq_CC "RiichiTableLaw" 40 y_Model_quad 1 := ⟨Or.inl (zq_in (zq_c5 (List.mem_of_getElem? (i := 239) rfl)) rfl), (zq_in (zq_c6 (List.mem_of_getElem? (i := 2) rfl)) rfl), (zq_in (zq_c1 (List.mem_of_getElem? (i := 7) rfl)) rfl), ⟨by decide, by decide, by decide +kernel⟩, by decide⟩
theorem cv_Model_quad : Cond.instanceMethod y_Model_quad.1 ∈ zq_ws ∧ Cond.selects y_Model_quad.1.cls y_Model_quad.1 y_Model_quad.1 ∈ zq_ws ∧ zq_cl[6]? = some (y_Model_quad.1.cls, zq_T_Model, 50) := ⟨(zq_in (zq_c6 (List.mem_of_getElem? (i := 0) rfl)) rfl), (zq_in (zq_c6 (List.mem_of_getElem? (i := 1) rfl)) rfl), rfl⟩
theorem cc_Law_41 : zq_CC "RiichiTableLaw" 41 y_Table_win 0 := ⟨Or.inl (zq_in (zq_c3 (List.mem_of_getElem? (i := 218) rfl)) rfl), (zq_in (zq_c3 (List.mem_of_getElem? (i := 221) rfl)) rfl), (zq_in (zq_c1 (List.mem_of_getElem? (i := 1) rfl)) rfl), ⟨by decide, by decide, by decide +kernel⟩, by decide⟩
theorem cv_Table_win : Cond.instanceMethod y_Table_win.1 ∈ zq_ws ∧ Cond.selects y_Table_win.1.cls y_Table_win.1 y_Table_win.1 ∈ zq_ws ∧ zq_cl[0]? = some (y_Table_win.1.cls, zq_T_Table, 14) := ⟨(zq_in (zq_c3 (List.mem_of_getElem? (i := 219) rfl)) rfl), (zq_in (zq_c3 (List.mem_of_getElem? (i := 220) rfl)) rfl), rfl⟩
theorem cc_Law_45 : zq_CC "RiichiTableLaw" 45 y_Model_win 0 := ⟨Or.inl (zq_in (zq_c6 (List.mem_of_getElem? (i := 3) rfl)) rfl), (zq_in (zq_c6 (List.mem_of_getElem? (i := 6) rfl)) rfl), (zq_in (zq_c1 (List.mem_of_getElem? (i := 7) rfl)) rfl), ⟨by decide, by decide, by decide +kernel⟩, by decide⟩
theorem cv_Model_win : Cond.instanceMethod y_Model_win.1 ∈ zq_ws ∧ Cond.selects y_Model_win.1.cls y_Model_win.1 y_Model_win.1 ∈ zq_ws ∧ zq_cl[6]? = some (y_Model_win.1.cls, zq_T_Model, 50) := ⟨(zq_in (zq_c6 (List.mem_of_getElem? (i := 4) rfl)) rfl), (zq_in (zq_c6 (List.mem_of_getElem? (i := 5) rfl)) rfl), rfl⟩
theorem cc_Law_46 : zq_CC "RiichiTableLaw" 46 y_Table_options 1 := ⟨Or.inl (zq_in (zq_c3 (List.mem_of_getElem? (i := 222) rfl)) rfl), (zq_in (zq_c3 (List.mem_of_getElem? (i := 225) rfl)) rfl), (zq_in (zq_c1 (List.mem_of_getElem? (i := 1) rfl)) rfl), ⟨by decide, by decide, by decide +kernel⟩, by decide⟩
theorem cv_Table_options : Cond.instanceMethod y_Table_options.1 ∈ zq_ws ∧ Cond.selects y_Table_options.1.cls y_Table_options.1 y_Table_options.1 ∈ zq_ws ∧ zq_cl[0]? = some (y_Table_options.1.cls, zq_T_Table, 14) := ⟨(zq_in (zq_c3 (List.mem_of_getElem? (i := 223) rfl)) rfl), (zq_in (zq_c3 (List.mem_of_getElem? (i := 224) rfl)) rfl), rfl⟩
theorem cc_Law_49 : zq_CC "RiichiTableLaw" 49 y_Model_options 1 := ⟨Or.inl (zq_in (zq_c5 (List.mem_of_getElem? (i := 231) rfl)) rfl), (zq_in (zq_c5 (List.mem_of_getElem? (i := 234) rfl)) rfl), (zq_in (zq_c1 (List.mem_of_getElem? (i := 7) rfl)) rfl), ⟨by decide, by decide, by decide +kernel⟩, by decide⟩
theorem cv_Model_options : Cond.instanceMethod y_Model_options.1 ∈ zq_ws ∧ Cond.selects y_Model_options.1.cls y_Model_options.1 y_Model_options.1 ∈ zq_ws ∧ zq_cl[6]? = some (y_Model_options.1.cls, zq_T_Model, 50) := ⟨(zq_in (zq_c5 (List.mem_of_getElem? (i := 232) rfl)) rfl), (zq_in (zq_c5 (List.mem_of_getElem? (i := 233) rfl)) rfl), rfl⟩
theorem cc_Law_50 : zq_CC "RiichiTableLaw" 50 y_Table_claim 3 := ⟨Or.inl (zq_in (zq_c3 (List.mem_of_getElem? (i := 229) rfl)) rfl), (zq_in (zq_c3 (List.mem_of_getElem? (i := 232) rfl)) rfl), (zq_in (zq_c1 (List.mem_of_getElem? (i := 1) rfl)) rfl), ⟨by decide, by decide, by decide +kernel⟩, by decide⟩
theorem cv_Table_claim : Cond.instanceMethod y_Table_claim.1 ∈ zq_ws ∧ Cond.selects y_Table_claim.1.cls y_Table_claim.1 y_Table_claim.1 ∈ zq_ws ∧ zq_cl[0]? = some (y_Table_claim.1.cls, zq_T_Table, 14) := ⟨(zq_in (zq_c3 (List.mem_of_getElem? (i := 230) rfl)) rfl), (zq_in (zq_c3 (List.mem_of_getElem? (i := 231) rfl)) rfl), rfl⟩
theorem cc_Law_54 : zq_CC "RiichiTableLaw" 54 y_Model_claim 3 := ⟨Or.inl (zq_in (zq_c5 (List.mem_of_getElem? (i := 235) rfl)) rfl), (zq_in (zq_c5 (List.mem_of_getElem? (i := 238) rfl)) rfl), (zq_in (zq_c1 (List.mem_of_getElem? (i := 7) rfl)) rfl), ⟨by decide, by decide, by decide +kernel⟩, by decide⟩
theorem cv_Model_claim : Cond.instanceMethod y_Model_claim.1 ∈ zq_ws ∧ Cond.selects y_Model_claim.1.cls y_Model_claim.1 y_Model_claim.1 ∈ zq_ws ∧ zq_cl[6]? = some (y_Model_claim.1.cls, zq_T_Model, 50) := ⟨(zq_in (zq_c5 (List.mem_of_getElem? (i := 236) rfl)) rfl), (zq_in (zq_c5 (List.mem_of_getElem? (i := 237) rfl)) rfl), rfl⟩
theorem cc_Law_55 : zq_CC "RiichiTableLaw" 55 y_Table_next 0 := ⟨Or.inl (zq_in (zq_c3 (List.mem_of_getElem? (i := 237) rfl)) rfl), (zq_in (zq_c4 (List.mem_of_getElem? (i := 0) rfl)) rfl), (zq_in (zq_c1 (List.mem_of_getElem? (i := 1) rfl)) rfl), ⟨by decide, by decide, by decide +kernel⟩, by decide⟩
theorem cv_Table_next : Cond.instanceMethod y_Table_next.1 ∈ zq_ws ∧ Cond.selects y_Table_next.1.cls y_Table_next.1 y_Table_next.1 ∈ zq_ws ∧ zq_cl[0]? = some (y_Table_next.1.cls, zq_T_Table, 14) := ⟨(zq_in (zq_c3 (List.mem_of_getElem? (i := 238) rfl)) rfl), (zq_in (zq_c3 (List.mem_of_getElem? (i := 239) rfl)) rfl), rfl⟩
theorem cc_Law_58 : zq_CC "RiichiTableLaw" 58 y_Model_next 0 := ⟨Or.inl (zq_in (zq_c6 (List.mem_of_getElem? (i := 7) rfl)) rfl), (zq_in (zq_c6 (List.mem_of_getElem? (i := 10) rfl)) rfl), (zq_in (zq_c1 (List.mem_of_getElem? (i := 7) rfl)) rfl), ⟨by decide, by decide, by decide +kernel⟩, by decide⟩
theorem cv_Model_next : Cond.instanceMethod y_Model_next.1 ∈ zq_ws ∧ Cond.selects y_Model_next.1.cls y_Model_next.1 y_Model_next.1 ∈ zq_ws ∧ zq_cl[6]? = some (y_Model_next.1.cls, zq_T_Model, 50) := ⟨(zq_in (zq_c6 (List.mem_of_getElem? (i := 8) rfl)) rfl), (zq_in (zq_c6 (List.mem_of_getElem? (i := 9) rfl)) rfl), rfl⟩
theorem cc_Law_59 : zq_CC "RiichiTableLaw" 59 y_Table_phase 0 := ⟨Or.inl (zq_in (zq_c4 (List.mem_of_getElem? (i := 1) rfl)) rfl), (zq_in (zq_c4 (List.mem_of_getElem? (i := 4) rfl)) rfl), (zq_in (zq_c1 (List.mem_of_getElem? (i := 1) rfl)) rfl), ⟨by decide, by decide, by decide +kernel⟩, by decide⟩
theorem cv_Table_phase : Cond.instanceMethod y_Table_phase.1 ∈ zq_ws ∧ Cond.selects y_Table_phase.1.cls y_Table_phase.1 y_Table_phase.1 ∈ zq_ws ∧ zq_cl[0]? = some (y_Table_phase.1.cls, zq_T_Table, 14) := ⟨(zq_in (zq_c4 (List.mem_of_getElem? (i := 2) rfl)) rfl), (zq_in (zq_c4 (List.mem_of_getElem? (i := 3) rfl)) rfl), rfl⟩
theorem cc_Law_62 : zq_CC "RiichiTableLaw" 62 y_Model_phase 0 := ⟨Or.inl (zq_in (zq_c6 (List.mem_of_getElem? (i := 11) rfl)) rfl), (zq_in (zq_c6 (List.mem_of_getElem? (i := 14) rfl)) rfl), (zq_in (zq_c1 (List.mem_of_getElem? (i := 7) rfl)) rfl), ⟨by decide, by decide, by decide +kernel⟩, by decide⟩
theorem cv_Model_phase : Cond.instanceMethod y_Model_phase.1 ∈ zq_ws ∧ Cond.selects y_Model_phase.1.cls y_Model_phase.1 y_Model_phase.1 ∈ zq_ws ∧ zq_cl[6]? = some (y_Model_phase.1.cls, zq_T_Model, 50) := ⟨(zq_in (zq_c6 (List.mem_of_getElem? (i := 12) rfl)) rfl), (zq_in (zq_c6 (List.mem_of_getElem? (i := 13) rfl)) rfl), rfl⟩
theorem cc_Law_63 : zq_CC "RiichiTableLaw" 63 y_Table_who 0 := ⟨Or.inl (zq_in (zq_c4 (List.mem_of_getElem? (i := 5) rfl)) rfl), (zq_in (zq_c4 (List.mem_of_getElem? (i := 8) rfl)) rfl), (zq_in (zq_c1 (List.mem_of_getElem? (i := 1) rfl)) rfl), ⟨by decide, by decide, by decide +kernel⟩, by decide⟩
theorem cv_Table_who : Cond.instanceMethod y_Table_who.1 ∈ zq_ws ∧ Cond.selects y_Table_who.1.cls y_Table_who.1 y_Table_who.1 ∈ zq_ws ∧ zq_cl[0]? = some (y_Table_who.1.cls, zq_T_Table, 14) := ⟨(zq_in (zq_c4 (List.mem_of_getElem? (i := 6) rfl)) rfl), (zq_in (zq_c4 (List.mem_of_getElem? (i := 7) rfl)) rfl), rfl⟩
theorem cc_Law_66 : zq_CC "RiichiTableLaw" 66 y_Model_who 0 := ⟨Or.inl (zq_in (zq_c6 (List.mem_of_getElem? (i := 15) rfl)) rfl), (zq_in (zq_c6 (List.mem_of_getElem? (i := 18) rfl)) rfl), (zq_in (zq_c1 (List.mem_of_getElem? (i := 7) rfl)) rfl), ⟨by decide, by decide, by decide +kernel⟩, by decide⟩
theorem cv_Model_who : Cond.instanceMethod y_Model_who.1 ∈ zq_ws ∧ Cond.selects y_Model_who.1.cls y_Model_who.1 y_Model_who.1 ∈ zq_ws ∧ zq_cl[6]? = some (y_Model_who.1.cls, zq_T_Model, 50) := ⟨(zq_in (zq_c6 (List.mem_of_getElem? (i := 16) rfl)) rfl), (zq_in (zq_c6 (List.mem_of_getElem? (i := 17) rfl)) rfl), rfl⟩
theorem cc_Law_67 : zq_CC "RiichiTableLaw" 67 y_Table_drawn 0 := ⟨Or.inl (zq_in (zq_c4 (List.mem_of_getElem? (i := 9) rfl)) rfl), (zq_in (zq_c4 (List.mem_of_getElem? (i := 12) rfl)) rfl), (zq_in (zq_c1 (List.mem_of_getElem? (i := 1) rfl)) rfl), ⟨by decide, by decide, by decide +kernel⟩, by decide⟩
theorem cv_Table_drawn : Cond.instanceMethod y_Table_drawn.1 ∈ zq_ws ∧ Cond.selects y_Table_drawn.1.cls y_Table_drawn.1 y_Table_drawn.1 ∈ zq_ws ∧ zq_cl[0]? = some (y_Table_drawn.1.cls, zq_T_Table, 14) := ⟨(zq_in (zq_c4 (List.mem_of_getElem? (i := 10) rfl)) rfl), (zq_in (zq_c4 (List.mem_of_getElem? (i := 11) rfl)) rfl), rfl⟩
theorem cc_Law_70 : zq_CC "RiichiTableLaw" 70 y_Model_drawn 0 := ⟨Or.inl (zq_in (zq_c6 (List.mem_of_getElem? (i := 19) rfl)) rfl), (zq_in (zq_c6 (List.mem_of_getElem? (i := 22) rfl)) rfl), (zq_in (zq_c1 (List.mem_of_getElem? (i := 7) rfl)) rfl), ⟨by decide, by decide, by decide +kernel⟩, by decide⟩
theorem cv_Model_drawn : Cond.instanceMethod y_Model_drawn.1 ∈ zq_ws ∧ Cond.selects y_Model_drawn.1.cls y_Model_drawn.1 y_Model_drawn.1 ∈ zq_ws ∧ zq_cl[6]? = some (y_Model_drawn.1.cls, zq_T_Model, 50) := ⟨(zq_in (zq_c6 (List.mem_of_getElem? (i := 20) rfl)) rfl), (zq_in (zq_c6 (List.mem_of_getElem? (i := 21) rfl)) rfl), rfl⟩
theorem cc_Law_71 : zq_CC "RiichiTableLaw" 71 y_Table_concealed 2 := ⟨Or.inl (zq_in (zq_c4 (List.mem_of_getElem? (i := 13) rfl)) rfl), (zq_in (zq_c4 (List.mem_of_getElem? (i := 16) rfl)) rfl), (zq_in (zq_c1 (List.mem_of_getElem? (i := 1) rfl)) rfl), ⟨by decide, by decide, by decide +kernel⟩, by decide⟩
theorem cv_Table_concealed : Cond.instanceMethod y_Table_concealed.1 ∈ zq_ws ∧ Cond.selects y_Table_concealed.1.cls y_Table_concealed.1 y_Table_concealed.1 ∈ zq_ws ∧ zq_cl[0]? = some (y_Table_concealed.1.cls, zq_T_Table, 14) := ⟨(zq_in (zq_c4 (List.mem_of_getElem? (i := 14) rfl)) rfl), (zq_in (zq_c4 (List.mem_of_getElem? (i := 15) rfl)) rfl), rfl⟩
theorem cc_Law_75 : zq_CC "RiichiTableLaw" 75 y_Model_concealed 2 := ⟨Or.inl (zq_in (zq_c6 (List.mem_of_getElem? (i := 23) rfl)) rfl), (zq_in (zq_c6 (List.mem_of_getElem? (i := 26) rfl)) rfl), (zq_in (zq_c1 (List.mem_of_getElem? (i := 7) rfl)) rfl), ⟨by decide, by decide, by decide +kernel⟩, by decide⟩
theorem cv_Model_concealed : Cond.instanceMethod y_Model_concealed.1 ∈ zq_ws ∧ Cond.selects y_Model_concealed.1.cls y_Model_concealed.1 y_Model_concealed.1 ∈ zq_ws ∧ zq_cl[6]? = some (y_Model_concealed.1.cls, zq_T_Model, 50) := ⟨(zq_in (zq_c6 (List.mem_of_getElem? (i := 24) rfl)) rfl), (zq_in (zq_c6 (List.mem_of_getElem? (i := 25) rfl)) rfl), rfl⟩
theorem cc_Law_76 : zq_CC "RiichiTableLaw" 76 y_Table_meld 2 := ⟨Or.inl (zq_in (zq_c4 (List.mem_of_getElem? (i := 21) rfl)) rfl), (zq_in (zq_c4 (List.mem_of_getElem? (i := 24) rfl)) rfl), (zq_in (zq_c1 (List.mem_of_getElem? (i := 1) rfl)) rfl), ⟨by decide, by decide, by decide +kernel⟩, by decide⟩
theorem cv_Table_meld : Cond.instanceMethod y_Table_meld.1 ∈ zq_ws ∧ Cond.selects y_Table_meld.1.cls y_Table_meld.1 y_Table_meld.1 ∈ zq_ws ∧ zq_cl[0]? = some (y_Table_meld.1.cls, zq_T_Table, 14) := ⟨(zq_in (zq_c4 (List.mem_of_getElem? (i := 22) rfl)) rfl), (zq_in (zq_c4 (List.mem_of_getElem? (i := 23) rfl)) rfl), rfl⟩
theorem cc_Law_79 : zq_CC "RiichiTableLaw" 79 y_Model_meld 2 := ⟨Or.inl (zq_in (zq_c6 (List.mem_of_getElem? (i := 31) rfl)) rfl), (zq_in (zq_c6 (List.mem_of_getElem? (i := 34) rfl)) rfl), (zq_in (zq_c1 (List.mem_of_getElem? (i := 7) rfl)) rfl), ⟨by decide, by decide, by decide +kernel⟩, by decide⟩
theorem cv_Model_meld : Cond.instanceMethod y_Model_meld.1 ∈ zq_ws ∧ Cond.selects y_Model_meld.1.cls y_Model_meld.1 y_Model_meld.1 ∈ zq_ws ∧ zq_cl[6]? = some (y_Model_meld.1.cls, zq_T_Model, 50) := ⟨(zq_in (zq_c6 (List.mem_of_getElem? (i := 32) rfl)) rfl), (zq_in (zq_c6 (List.mem_of_getElem? (i := 33) rfl)) rfl), rfl⟩
theorem cc_Law_80 : zq_CC "RiichiTableLaw" 80 y_Table_river 2 := ⟨Or.inl (zq_in (zq_c4 (List.mem_of_getElem? (i := 25) rfl)) rfl), (zq_in (zq_c4 (List.mem_of_getElem? (i := 28) rfl)) rfl), (zq_in (zq_c1 (List.mem_of_getElem? (i := 1) rfl)) rfl), ⟨by decide, by decide, by decide +kernel⟩, by decide⟩
theorem cv_Table_river : Cond.instanceMethod y_Table_river.1 ∈ zq_ws ∧ Cond.selects y_Table_river.1.cls y_Table_river.1 y_Table_river.1 ∈ zq_ws ∧ zq_cl[0]? = some (y_Table_river.1.cls, zq_T_Table, 14) := ⟨(zq_in (zq_c4 (List.mem_of_getElem? (i := 26) rfl)) rfl), (zq_in (zq_c4 (List.mem_of_getElem? (i := 27) rfl)) rfl), rfl⟩
theorem cc_Law_83 : zq_CC "RiichiTableLaw" 83 y_Model_river 2 := ⟨Or.inl (zq_in (zq_c6 (List.mem_of_getElem? (i := 35) rfl)) rfl), (zq_in (zq_c6 (List.mem_of_getElem? (i := 38) rfl)) rfl), (zq_in (zq_c1 (List.mem_of_getElem? (i := 7) rfl)) rfl), ⟨by decide, by decide, by decide +kernel⟩, by decide⟩
theorem cv_Model_river : Cond.instanceMethod y_Model_river.1 ∈ zq_ws ∧ Cond.selects y_Model_river.1.cls y_Model_river.1 y_Model_river.1 ∈ zq_ws ∧ zq_cl[6]? = some (y_Model_river.1.cls, zq_T_Model, 50) := ⟨(zq_in (zq_c6 (List.mem_of_getElem? (i := 36) rfl)) rfl), (zq_in (zq_c6 (List.mem_of_getElem? (i := 37) rfl)) rfl), rfl⟩
theorem cc_Law_84 : zq_CC "RiichiTableLaw" 84 y_Table_waits 1 := ⟨Or.inl (zq_in (zq_c4 (List.mem_of_getElem? (i := 29) rfl)) rfl), (zq_in (zq_c4 (List.mem_of_getElem? (i := 32) rfl)) rfl), (zq_in (zq_c1 (List.mem_of_getElem? (i := 1) rfl)) rfl), ⟨by decide, by decide, by decide +kernel⟩, by decide⟩
theorem cv_Table_waits : Cond.instanceMethod y_Table_waits.1 ∈ zq_ws ∧ Cond.selects y_Table_waits.1.cls y_Table_waits.1 y_Table_waits.1 ∈ zq_ws ∧ zq_cl[0]? = some (y_Table_waits.1.cls, zq_T_Table, 14) := ⟨(zq_in (zq_c4 (List.mem_of_getElem? (i := 30) rfl)) rfl), (zq_in (zq_c4 (List.mem_of_getElem? (i := 31) rfl)) rfl), rfl⟩
theorem cc_Law_88 : zq_CC "RiichiTableLaw" 88 y_Model_waits 1 := ⟨Or.inl (zq_in (zq_c6 (List.mem_of_getElem? (i := 39) rfl)) rfl), (zq_in (zq_c6 (List.mem_of_getElem? (i := 42) rfl)) rfl), (zq_in (zq_c1 (List.mem_of_getElem? (i := 7) rfl)) rfl), ⟨by decide, by decide, by decide +kernel⟩, by decide⟩
theorem cv_Model_waits : Cond.instanceMethod y_Model_waits.1 ∈ zq_ws ∧ Cond.selects y_Model_waits.1.cls y_Model_waits.1 y_Model_waits.1 ∈ zq_ws ∧ zq_cl[6]? = some (y_Model_waits.1.cls, zq_T_Model, 50) := ⟨(zq_in (zq_c6 (List.mem_of_getElem? (i := 40) rfl)) rfl), (zq_in (zq_c6 (List.mem_of_getElem? (i := 41) rfl)) rfl), rfl⟩
theorem cc_Law_89 : zq_CC "RiichiTableLaw" 89 y_Table_furiten 1 := ⟨Or.inl (zq_in (zq_c4 (List.mem_of_getElem? (i := 33) rfl)) rfl), (zq_in (zq_c4 (List.mem_of_getElem? (i := 36) rfl)) rfl), (zq_in (zq_c1 (List.mem_of_getElem? (i := 1) rfl)) rfl), ⟨by decide, by decide, by decide +kernel⟩, by decide⟩
theorem cv_Table_furiten : Cond.instanceMethod y_Table_furiten.1 ∈ zq_ws ∧ Cond.selects y_Table_furiten.1.cls y_Table_furiten.1 y_Table_furiten.1 ∈ zq_ws ∧ zq_cl[0]? = some (y_Table_furiten.1.cls, zq_T_Table, 14) := ⟨(zq_in (zq_c4 (List.mem_of_getElem? (i := 34) rfl)) rfl), (zq_in (zq_c4 (List.mem_of_getElem? (i := 35) rfl)) rfl), rfl⟩
theorem cc_Law_93 : zq_CC "RiichiTableLaw" 93 y_Model_furiten 1 := ⟨Or.inl (zq_in (zq_c6 (List.mem_of_getElem? (i := 43) rfl)) rfl), (zq_in (zq_c6 (List.mem_of_getElem? (i := 46) rfl)) rfl), (zq_in (zq_c1 (List.mem_of_getElem? (i := 7) rfl)) rfl), ⟨by decide, by decide, by decide +kernel⟩, by decide⟩
theorem cv_Model_furiten : Cond.instanceMethod y_Model_furiten.1 ∈ zq_ws ∧ Cond.selects y_Model_furiten.1.cls y_Model_furiten.1 y_Model_furiten.1 ∈ zq_ws ∧ zq_cl[6]? = some (y_Model_furiten.1.cls, zq_T_Model, 50) := ⟨(zq_in (zq_c6 (List.mem_of_getElem? (i := 44) rfl)) rfl), (zq_in (zq_c6 (List.mem_of_getElem? (i := 45) rfl)) rfl), rfl⟩
theorem cc_Law_94 : zq_CC "RiichiTableLaw" 94 y_Table_points 1 := ⟨Or.inl (zq_in (zq_c4 (List.mem_of_getElem? (i := 37) rfl)) rfl), (zq_in (zq_c4 (List.mem_of_getElem? (i := 40) rfl)) rfl), (zq_in (zq_c1 (List.mem_of_getElem? (i := 1) rfl)) rfl), ⟨by decide, by decide, by decide +kernel⟩, by decide⟩
theorem cv_Table_points : Cond.instanceMethod y_Table_points.1 ∈ zq_ws ∧ Cond.selects y_Table_points.1.cls y_Table_points.1 y_Table_points.1 ∈ zq_ws ∧ zq_cl[0]? = some (y_Table_points.1.cls, zq_T_Table, 14) := ⟨(zq_in (zq_c4 (List.mem_of_getElem? (i := 38) rfl)) rfl), (zq_in (zq_c4 (List.mem_of_getElem? (i := 39) rfl)) rfl), rfl⟩
theorem cc_Law_97 : zq_CC "RiichiTableLaw" 97 y_Model_points 1 := ⟨Or.inl (zq_in (zq_c6 (List.mem_of_getElem? (i := 47) rfl)) rfl), (zq_in (zq_c6 (List.mem_of_getElem? (i := 50) rfl)) rfl), (zq_in (zq_c1 (List.mem_of_getElem? (i := 7) rfl)) rfl), ⟨by decide, by decide, by decide +kernel⟩, by decide⟩
theorem cv_Model_points : Cond.instanceMethod y_Model_points.1 ∈ zq_ws ∧ Cond.selects y_Model_points.1.cls y_Model_points.1 y_Model_points.1 ∈ zq_ws ∧ zq_cl[6]? = some (y_Model_points.1.cls, zq_T_Model, 50) := ⟨(zq_in (zq_c6 (List.mem_of_getElem? (i := 48) rfl)) rfl), (zq_in (zq_c6 (List.mem_of_getElem? (i := 49) rfl)) rfl), rfl⟩
theorem cc_Law_98 : zq_CC "RiichiTableLaw" 98 y_Table_table 1 := ⟨Or.inl (zq_in (zq_c4 (List.mem_of_getElem? (i := 41) rfl)) rfl), (zq_in (zq_c4 (List.mem_of_getElem? (i := 44) rfl)) rfl), (zq_in (zq_c1 (List.mem_of_getElem? (i := 1) rfl)) rfl), ⟨by decide, by decide, by decide +kernel⟩, by decide⟩
theorem cv_Table_table : Cond.instanceMethod y_Table_table.1 ∈ zq_ws ∧ Cond.selects y_Table_table.1.cls y_Table_table.1 y_Table_table.1 ∈ zq_ws ∧ zq_cl[0]? = some (y_Table_table.1.cls, zq_T_Table, 14) := ⟨(zq_in (zq_c4 (List.mem_of_getElem? (i := 42) rfl)) rfl), (zq_in (zq_c4 (List.mem_of_getElem? (i := 43) rfl)) rfl), rfl⟩
theorem cc_Law_101 : zq_CC "RiichiTableLaw" 101 y_Model_table 1 := ⟨Or.inl (zq_in (zq_c6 (List.mem_of_getElem? (i := 51) rfl)) rfl), (zq_in (zq_c6 (List.mem_of_getElem? (i := 54) rfl)) rfl), (zq_in (zq_c1 (List.mem_of_getElem? (i := 7) rfl)) rfl), ⟨by decide, by decide, by decide +kernel⟩, by decide⟩
theorem cv_Model_table : Cond.instanceMethod y_Model_table.1 ∈ zq_ws ∧ Cond.selects y_Model_table.1.cls y_Model_table.1 y_Model_table.1 ∈ zq_ws ∧ zq_cl[6]? = some (y_Model_table.1.cls, zq_T_Model, 50) := ⟨(zq_in (zq_c6 (List.mem_of_getElem? (i := 52) rfl)) rfl), (zq_in (zq_c6 (List.mem_of_getElem? (i := 53) rfl)) rfl), rfl⟩
theorem cc_Law_102 : zq_CC "RiichiTableLaw" 102 y_Table_worth 2 := ⟨Or.inl (zq_in (zq_c4 (List.mem_of_getElem? (i := 45) rfl)) rfl), (zq_in (zq_c4 (List.mem_of_getElem? (i := 48) rfl)) rfl), (zq_in (zq_c1 (List.mem_of_getElem? (i := 1) rfl)) rfl), ⟨by decide, by decide, by decide +kernel⟩, by decide⟩
theorem cv_Table_worth : Cond.instanceMethod y_Table_worth.1 ∈ zq_ws ∧ Cond.selects y_Table_worth.1.cls y_Table_worth.1 y_Table_worth.1 ∈ zq_ws ∧ zq_cl[0]? = some (y_Table_worth.1.cls, zq_T_Table, 14) := ⟨(zq_in (zq_c4 (List.mem_of_getElem? (i := 46) rfl)) rfl), (zq_in (zq_c4 (List.mem_of_getElem? (i := 47) rfl)) rfl), rfl⟩
theorem cc_Law_105 : zq_CC "RiichiTableLaw" 105 y_Model_worth 2 := ⟨Or.inl (zq_in (zq_c6 (List.mem_of_getElem? (i := 55) rfl)) rfl), (zq_in (zq_c6 (List.mem_of_getElem? (i := 58) rfl)) rfl), (zq_in (zq_c1 (List.mem_of_getElem? (i := 7) rfl)) rfl), ⟨by decide, by decide, by decide +kernel⟩, by decide⟩
theorem cv_Model_worth : Cond.instanceMethod y_Model_worth.1 ∈ zq_ws ∧ Cond.selects y_Model_worth.1.cls y_Model_worth.1 y_Model_worth.1 ∈ zq_ws ∧ zq_cl[6]? = some (y_Model_worth.1.cls, zq_T_Model, 50) := ⟨(zq_in (zq_c6 (List.mem_of_getElem? (i := 56) rfl)) rfl), (zq_in (zq_c6 (List.mem_of_getElem? (i := 57) rfl)) rfl), rfl⟩
theorem cc_Law_106 : zq_CC "RiichiTableLaw" 106 y_Table_yaku 1 := ⟨Or.inl (zq_in (zq_c4 (List.mem_of_getElem? (i := 49) rfl)) rfl), (zq_in (zq_c4 (List.mem_of_getElem? (i := 52) rfl)) rfl), (zq_in (zq_c1 (List.mem_of_getElem? (i := 1) rfl)) rfl), ⟨by decide, by decide, by decide +kernel⟩, by decide⟩
theorem cv_Table_yaku : Cond.instanceMethod y_Table_yaku.1 ∈ zq_ws ∧ Cond.selects y_Table_yaku.1.cls y_Table_yaku.1 y_Table_yaku.1 ∈ zq_ws ∧ zq_cl[0]? = some (y_Table_yaku.1.cls, zq_T_Table, 14) := ⟨(zq_in (zq_c4 (List.mem_of_getElem? (i := 50) rfl)) rfl), (zq_in (zq_c4 (List.mem_of_getElem? (i := 51) rfl)) rfl), rfl⟩
theorem cc_Law_109 : zq_CC "RiichiTableLaw" 109 y_Model_yaku 1 := ⟨Or.inl (zq_in (zq_c6 (List.mem_of_getElem? (i := 59) rfl)) rfl), (zq_in (zq_c6 (List.mem_of_getElem? (i := 62) rfl)) rfl), (zq_in (zq_c1 (List.mem_of_getElem? (i := 7) rfl)) rfl), ⟨by decide, by decide, by decide +kernel⟩, by decide⟩
theorem cv_Model_yaku : Cond.instanceMethod y_Model_yaku.1 ∈ zq_ws ∧ Cond.selects y_Model_yaku.1.cls y_Model_yaku.1 y_Model_yaku.1 ∈ zq_ws ∧ zq_cl[6]? = some (y_Model_yaku.1.cls, zq_T_Model, 50) := ⟨(zq_in (zq_c6 (List.mem_of_getElem? (i := 60) rfl)) rfl), (zq_in (zq_c6 (List.mem_of_getElem? (i := 61) rfl)) rfl), rfl⟩
theorem cc_Law_110 : zq_CC "RiichiTableLaw" 110 y_Table_state 0 := ⟨Or.inl (zq_in (zq_c4 (List.mem_of_getElem? (i := 53) rfl)) rfl), (zq_in (zq_c4 (List.mem_of_getElem? (i := 56) rfl)) rfl), (zq_in (zq_c1 (List.mem_of_getElem? (i := 1) rfl)) rfl), ⟨by decide, by decide, by decide +kernel⟩, by decide⟩
theorem cv_Table_state : Cond.instanceMethod y_Table_state.1 ∈ zq_ws ∧ Cond.selects y_Table_state.1.cls y_Table_state.1 y_Table_state.1 ∈ zq_ws ∧ zq_cl[0]? = some (y_Table_state.1.cls, zq_T_Table, 14) := ⟨(zq_in (zq_c4 (List.mem_of_getElem? (i := 54) rfl)) rfl), (zq_in (zq_c4 (List.mem_of_getElem? (i := 55) rfl)) rfl), rfl⟩
theorem cc_Law_113 : zq_CC "RiichiTableLaw" 113 y_Model_state 0 := ⟨Or.inl (zq_in (zq_c6 (List.mem_of_getElem? (i := 63) rfl)) rfl), (zq_in (zq_c6 (List.mem_of_getElem? (i := 66) rfl)) rfl), (zq_in (zq_c1 (List.mem_of_getElem? (i := 7) rfl)) rfl), ⟨by decide, by decide, by decide +kernel⟩, by decide⟩
theorem cv_Model_state : Cond.instanceMethod y_Model_state.1 ∈ zq_ws ∧ Cond.selects y_Model_state.1.cls y_Model_state.1 y_Model_state.1 ∈ zq_ws ∧ zq_cl[6]? = some (y_Model_state.1.cls, zq_T_Model, 50) := ⟨(zq_in (zq_c6 (List.mem_of_getElem? (i := 64) rfl)) rfl), (zq_in (zq_c6 (List.mem_of_getElem? (i := 65) rfl)) rfl), rfl⟩
def j_Law_law_L651 (Ls : Nat) (xs : Nat → Int32) (R28 : Int32 → zm → Prop) (K : Int32 → zm → Prop) (x3 : Int32) (m : zm) : Prop := (∀ y85 : Int32, y85 = x3 + 4 → (R28 y85 m))
def j_Law_law_L227 (Ls : Nat) (xs : Nat → Int32) (R28 : Int32 → zm → Prop) (K : Int32 → zm → Prop) (x3 : Int32) (t0 : Int32) (t1 : Int32) (t3 : Int32) (m : zm) : Prop := (j_Model_discard t1 t0 m (fun r84 m83 => ((t3 = r84 → (j_Law_law_L651 Ls xs R28 K x3 m83)) ∧ (¬ t3 = r84 → (K 0 m83)))))
def j_Law_law_L205 (Ls : Nat) (xs : Nat → Int32) (R28 : Int32 → zm → Prop) (K : Int32 → zm → Prop) (x3 : Int32) (t0 : Int32) (t1 : Int32) (m : zm) : Prop := (j_Table_discard t1 t0 m (fun r82 m81 => (vp_in (x3 + 1) Ls ∧ (vp_in (x3 + 2) Ls ∧ (((xs (Int32.toNatClampNeg (x3 + 2))) = 0 → (j_Law_law_L227 Ls xs R28 K x3 0 (xs (Int32.toNatClampNeg (x3 + 1))) r82 m81)) ∧ (¬ (xs (Int32.toNatClampNeg (x3 + 2))) = 0 → (j_Law_law_L227 Ls xs R28 K x3 1 (xs (Int32.toNatClampNeg (x3 + 1))) r82 m81)))))))
def j_Law_law_L28 (Ls : Nat) (xs : Nat → Int32) (K : Int32 → zm → Prop) : Nat → Int32 → zm → Prop
  | 0, _, _ => False
  | n + 1, x3, m => ((((Int32.ofNat Ls) - 4) < x3 → (K 1 m)) ∧ (¬ ((Int32.ofNat Ls) - 4) < x3 → (vp_in x3 Ls ∧ (((Int32.toInt ((xs (Int32.toNatClampNeg x3)) &&& 31) < 0 ∨ (20 : Int) < Int32.toInt ((xs (Int32.toNatClampNeg x3)) &&& 31)) → (j_Law_law_L651 Ls xs (j_Law_law_L28 Ls xs  K n) K x3 m)) ∧ (((xs (Int32.toNatClampNeg x3)) &&& 31) = 0 → (vp_in (x3 + 1) Ls ∧ (vp_in (x3 + 2) Ls ∧ (j_Table_arrange (xs (Int32.toNatClampNeg (x3 + 1))) (xs (Int32.toNatClampNeg (x3 + 2))) m (fun r2 m1 => (vp_in (x3 + 1) Ls ∧ (vp_in (x3 + 2) Ls ∧ (j_Model_arrange (xs (Int32.toNatClampNeg (x3 + 1))) (xs (Int32.toNatClampNeg (x3 + 2))) m1 (fun r4 m3 => ((r2 = r4 → (j_Law_law_L651 Ls xs (j_Law_law_L28 Ls xs  K n) K x3 m3)) ∧ (¬ r2 = r4 → (K 0 m3)))))))))))) ∧ (((xs (Int32.toNatClampNeg x3)) &&& 31) = 1 → (j_Table_deal  m (fun r6 m5 => (j_Model_deal  m5 (fun r8 m7 => ((r6 = r8 → (j_Law_law_L651 Ls xs (j_Law_law_L28 Ls xs  K n) K x3 m7)) ∧ (¬ r6 = r8 → (K 0 m7)))))))) ∧ (((xs (Int32.toNatClampNeg x3)) &&& 31) = 2 → (vp_in (x3 + 1) Ls ∧ (vp_in (x3 + 2) Ls ∧ (((xs (Int32.toNatClampNeg (x3 + 2))) = 0 → (j_Law_law_L205 Ls xs (j_Law_law_L28 Ls xs  K n) K x3 0 (xs (Int32.toNatClampNeg (x3 + 1))) m)) ∧ (¬ (xs (Int32.toNatClampNeg (x3 + 2))) = 0 → (j_Law_law_L205 Ls xs (j_Law_law_L28 Ls xs  K n) K x3 1 (xs (Int32.toNatClampNeg (x3 + 1))) m)))))) ∧ (((xs (Int32.toNatClampNeg x3)) &&& 31) = 3 → (vp_in (x3 + 1) Ls ∧ (j_Table_quad (xs (Int32.toNatClampNeg (x3 + 1))) m (fun r10 m9 => (vp_in (x3 + 1) Ls ∧ (j_Model_quad (xs (Int32.toNatClampNeg (x3 + 1))) m9 (fun r12 m11 => ((r10 = r12 → (j_Law_law_L651 Ls xs (j_Law_law_L28 Ls xs  K n) K x3 m11)) ∧ (¬ r10 = r12 → (K 0 m11)))))))))) ∧ (((xs (Int32.toNatClampNeg x3)) &&& 31) = 4 → (j_Table_win  m (fun r14 m13 => (j_Model_win  m13 (fun r16 m15 => ((r14 = r16 → (j_Law_law_L651 Ls xs (j_Law_law_L28 Ls xs  K n) K x3 m15)) ∧ (¬ r14 = r16 → (K 0 m15)))))))) ∧ (((xs (Int32.toNatClampNeg x3)) &&& 31) = 5 → (vp_in (x3 + 1) Ls ∧ (j_Table_options (xs (Int32.toNatClampNeg (x3 + 1))) m (fun r18 m17 => (vp_in (x3 + 1) Ls ∧ (j_Model_options (xs (Int32.toNatClampNeg (x3 + 1))) m17 (fun r20 m19 => ((r18 = r20 → (j_Law_law_L651 Ls xs (j_Law_law_L28 Ls xs  K n) K x3 m19)) ∧ (¬ r18 = r20 → (K 0 m19)))))))))) ∧ (((xs (Int32.toNatClampNeg x3)) &&& 31) = 6 → (vp_in (x3 + 1) Ls ∧ (vp_in (x3 + 2) Ls ∧ (vp_in (x3 + 3) Ls ∧ (j_Table_claim (xs (Int32.toNatClampNeg (x3 + 1))) (xs (Int32.toNatClampNeg (x3 + 2))) (xs (Int32.toNatClampNeg (x3 + 3))) m (fun r22 m21 => (vp_in (x3 + 1) Ls ∧ (vp_in (x3 + 2) Ls ∧ (vp_in (x3 + 3) Ls ∧ (j_Model_claim (xs (Int32.toNatClampNeg (x3 + 1))) (xs (Int32.toNatClampNeg (x3 + 2))) (xs (Int32.toNatClampNeg (x3 + 3))) m21 (fun r24 m23 => ((r22 = r24 → (j_Law_law_L651 Ls xs (j_Law_law_L28 Ls xs  K n) K x3 m23)) ∧ (¬ r22 = r24 → (K 0 m23)))))))))))))) ∧ (((xs (Int32.toNatClampNeg x3)) &&& 31) = 7 → (j_Table_next  m (fun r26 m25 => (j_Model_next  m25 (fun r28 m27 => ((r26 = r28 → (j_Law_law_L651 Ls xs (j_Law_law_L28 Ls xs  K n) K x3 m27)) ∧ (¬ r26 = r28 → (K 0 m27)))))))) ∧ (((xs (Int32.toNatClampNeg x3)) &&& 31) = 8 → (j_Table_phase  m (fun r30 m29 => (j_Model_phase  m29 (fun r32 m31 => ((r30 = r32 → (j_Law_law_L651 Ls xs (j_Law_law_L28 Ls xs  K n) K x3 m31)) ∧ (¬ r30 = r32 → (K 0 m31)))))))) ∧ (((xs (Int32.toNatClampNeg x3)) &&& 31) = 9 → (j_Table_who  m (fun r34 m33 => (j_Model_who  m33 (fun r36 m35 => ((r34 = r36 → (j_Law_law_L651 Ls xs (j_Law_law_L28 Ls xs  K n) K x3 m35)) ∧ (¬ r34 = r36 → (K 0 m35)))))))) ∧ (((xs (Int32.toNatClampNeg x3)) &&& 31) = 10 → (j_Table_drawn  m (fun r38 m37 => (j_Model_drawn  m37 (fun r40 m39 => ((r38 = r40 → (j_Law_law_L651 Ls xs (j_Law_law_L28 Ls xs  K n) K x3 m39)) ∧ (¬ r38 = r40 → (K 0 m39)))))))) ∧ (((xs (Int32.toNatClampNeg x3)) &&& 31) = 11 → (vp_in (x3 + 1) Ls ∧ (vp_in (x3 + 2) Ls ∧ (j_Table_concealed (xs (Int32.toNatClampNeg (x3 + 1))) (xs (Int32.toNatClampNeg (x3 + 2))) m (fun r42 m41 => (vp_in (x3 + 1) Ls ∧ (vp_in (x3 + 2) Ls ∧ (j_Model_concealed (xs (Int32.toNatClampNeg (x3 + 1))) (xs (Int32.toNatClampNeg (x3 + 2))) m41 (fun r44 m43 => ((r42 = r44 → (j_Law_law_L651 Ls xs (j_Law_law_L28 Ls xs  K n) K x3 m43)) ∧ (¬ r42 = r44 → (K 0 m43)))))))))))) ∧ (((xs (Int32.toNatClampNeg x3)) &&& 31) = 12 → (vp_in (x3 + 1) Ls ∧ (vp_in (x3 + 2) Ls ∧ (j_Table_meld (xs (Int32.toNatClampNeg (x3 + 1))) (xs (Int32.toNatClampNeg (x3 + 2))) m (fun r46 m45 => (vp_in (x3 + 1) Ls ∧ (vp_in (x3 + 2) Ls ∧ (j_Model_meld (xs (Int32.toNatClampNeg (x3 + 1))) (xs (Int32.toNatClampNeg (x3 + 2))) m45 (fun r48 m47 => ((r46 = r48 → (j_Law_law_L651 Ls xs (j_Law_law_L28 Ls xs  K n) K x3 m47)) ∧ (¬ r46 = r48 → (K 0 m47)))))))))))) ∧ (((xs (Int32.toNatClampNeg x3)) &&& 31) = 13 → (vp_in (x3 + 1) Ls ∧ (vp_in (x3 + 2) Ls ∧ (j_Table_river (xs (Int32.toNatClampNeg (x3 + 1))) (xs (Int32.toNatClampNeg (x3 + 2))) m (fun r50 m49 => (vp_in (x3 + 1) Ls ∧ (vp_in (x3 + 2) Ls ∧ (j_Model_river (xs (Int32.toNatClampNeg (x3 + 1))) (xs (Int32.toNatClampNeg (x3 + 2))) m49 (fun r52 m51 => ((r50 = r52 → (j_Law_law_L651 Ls xs (j_Law_law_L28 Ls xs  K n) K x3 m51)) ∧ (¬ r50 = r52 → (K 0 m51)))))))))))) ∧ (((xs (Int32.toNatClampNeg x3)) &&& 31) = 14 → (vp_in (x3 + 1) Ls ∧ (j_Table_waits (xs (Int32.toNatClampNeg (x3 + 1))) m (fun r54 m53 => (vp_in (x3 + 1) Ls ∧ (j_Model_waits (xs (Int32.toNatClampNeg (x3 + 1))) m53 (fun r56 m55 => (((lg_cmp r54 r56) = 0 → (j_Law_law_L651 Ls xs (j_Law_law_L28 Ls xs  K n) K x3 m55)) ∧ (¬ (lg_cmp r54 r56) = 0 → (K 0 m55)))))))))) ∧ (((xs (Int32.toNatClampNeg x3)) &&& 31) = 15 → (vp_in (x3 + 1) Ls ∧ (j_Table_furiten (xs (Int32.toNatClampNeg (x3 + 1))) m (fun r58 m57 => (vp_in (x3 + 1) Ls ∧ (j_Model_furiten (xs (Int32.toNatClampNeg (x3 + 1))) m57 (fun r60 m59 => ((r58 = r60 → (j_Law_law_L651 Ls xs (j_Law_law_L28 Ls xs  K n) K x3 m59)) ∧ (¬ r58 = r60 → (K 0 m59)))))))))) ∧ (((xs (Int32.toNatClampNeg x3)) &&& 31) = 16 → (vp_in (x3 + 1) Ls ∧ (j_Table_points (xs (Int32.toNatClampNeg (x3 + 1))) m (fun r62 m61 => (vp_in (x3 + 1) Ls ∧ (j_Model_points (xs (Int32.toNatClampNeg (x3 + 1))) m61 (fun r64 m63 => ((r62 = r64 → (j_Law_law_L651 Ls xs (j_Law_law_L28 Ls xs  K n) K x3 m63)) ∧ (¬ r62 = r64 → (K 0 m63)))))))))) ∧ (((xs (Int32.toNatClampNeg x3)) &&& 31) = 17 → (vp_in (x3 + 1) Ls ∧ (j_Table_table (xs (Int32.toNatClampNeg (x3 + 1))) m (fun r66 m65 => (vp_in (x3 + 1) Ls ∧ (j_Model_table (xs (Int32.toNatClampNeg (x3 + 1))) m65 (fun r68 m67 => ((r66 = r68 → (j_Law_law_L651 Ls xs (j_Law_law_L28 Ls xs  K n) K x3 m67)) ∧ (¬ r66 = r68 → (K 0 m67)))))))))) ∧ (((xs (Int32.toNatClampNeg x3)) &&& 31) = 18 → (vp_in (x3 + 1) Ls ∧ (vp_in (x3 + 2) Ls ∧ (j_Table_worth (xs (Int32.toNatClampNeg (x3 + 1))) (xs (Int32.toNatClampNeg (x3 + 2))) m (fun r70 m69 => (vp_in (x3 + 1) Ls ∧ (vp_in (x3 + 2) Ls ∧ (j_Model_worth (xs (Int32.toNatClampNeg (x3 + 1))) (xs (Int32.toNatClampNeg (x3 + 2))) m69 (fun r72 m71 => ((r70 = r72 → (j_Law_law_L651 Ls xs (j_Law_law_L28 Ls xs  K n) K x3 m71)) ∧ (¬ r70 = r72 → (K 0 m71)))))))))))) ∧ (((xs (Int32.toNatClampNeg x3)) &&& 31) = 19 → (vp_in (x3 + 1) Ls ∧ (j_Table_yaku (xs (Int32.toNatClampNeg (x3 + 1))) m (fun r74 m73 => (vp_in (x3 + 1) Ls ∧ (j_Model_yaku (xs (Int32.toNatClampNeg (x3 + 1))) m73 (fun r76 m75 => (((lg_cmp r74 r76) = 0 → (j_Law_law_L651 Ls xs (j_Law_law_L28 Ls xs  K n) K x3 m75)) ∧ (¬ (lg_cmp r74 r76) = 0 → (K 0 m75)))))))))) ∧ (((xs (Int32.toNatClampNeg x3)) &&& 31) = 20 → (j_Table_state  m (fun r78 m77 => (j_Model_state  m77 (fun r80 m79 => ((r78 = r80 → (j_Law_law_L651 Ls xs (j_Law_law_L28 Ls xs  K n) K x3 m79)) ∧ (¬ r78 = r80 → (K 0 m79))))))))))))
set_option maxHeartbeats 400000 in
theorem s_Law_law_L651 {l : Launch} {D : va_G} {sz : Nat} {Ls : Nat} {xs : Nat → Int32} {R28 : Int32 → zm → Prop} {K : Int32 → zm → Prop} (hR28 : ∀ {x3 : Int32} {m : zm}, R28 x3 m → zq_V (zk_g (l, D, sz, (Ls, xs))) ("RiichiTableLaw", code, 4, ret, false, room_1) 56 1853 28 [some (.ref (zq_B + 0)), some (.ref 0), some (.ref 33), some (.int x3)] [] (zm_hp m) (zm_QI K)) {x3 : Int32} {m : zm} (hJ : j_Law_law_L651 Ls xs R28 K x3 m) : zq_V (zk_g (l, D, sz, (Ls, xs))) ("RiichiTableLaw", code, 4, ret, false, room_1) 56 1853 651 [some (.ref (zq_B + 0)), some (.ref 0), some (.ref 33), some (.int x3)] [] (zm_hp m) (zm_QI K) := by
  unfold j_Law_law_L651 at hJ
  refine zr_iinc (d' := 4) d_Law_law_651 zk_i4 rfl (Nat.le_of_ble_eq_true rfl) (fun y85 hy85 => ?_)
  have hJ := hJ y85 hy85
  refine zr_L (L' := [some (.ref (zq_B + 0)), some (.ref 0), some (.ref 33), some (.int y85)]) rfl ?_
  refine zq_goto (tgt := 28) d_Law_law_654 (by decide) ?_
  refine zr_less (L' := [some (.ref (zq_B + 0)), some (.ref 0), some (.ref 33), some (.int y85)]) ⟨rfl, ⟨rfl, ⟨rfl, ⟨rfl, trivial⟩⟩⟩⟩ ?_
  exact hR28  hJ
set_option maxHeartbeats 400000 in
theorem s_Law_law_L227 {l : Launch} {D : va_G} {sz : Nat} {Ls : Nat} {xs : Nat → Int32} {R28 : Int32 → zm → Prop} {K : Int32 → zm → Prop} (hR28 : ∀ {x3 : Int32} {m : zm}, R28 x3 m → zq_V (zk_g (l, D, sz, (Ls, xs))) ("RiichiTableLaw", code, 4, ret, false, room_1) 56 1853 28 [some (.ref (zq_B + 0)), some (.ref 0), some (.ref 33), some (.int x3)] [] (zm_hp m) (zm_QI K)) {x3 : Int32} {t0 : Int32} {t1 : Int32} {t3 : Int32} {m : zm} (hJ : j_Law_law_L227 Ls xs R28 K x3 t0 t1 t3 m) : zq_V (zk_g (l, D, sz, (Ls, xs))) ("RiichiTableLaw", code, 4, ret, false, room_1) 56 1853 227 [some (.ref (zq_B + 0)), some (.ref 0), some (.ref 33), some (.int x3)] [.int t0, .int t1, .ref 33, .int t3] (zm_hp m) (zm_QI K) := by
  unfold j_Law_law_L227 at hJ
  refine zr_cvI (q := 33) (as := [.int t1, .int t0]) (st := [.int t3]) d_Law_law_227 cc_Law_35 cv_Model_discard zs_Model (s_Model_discard  hJ) rfl ⟨Nat.le_of_ble_eq_true rfl, Nat.le_of_ble_eq_true rfl⟩ (Nat.le_of_ble_eq_true rfl) ⟨Nat.le_of_ble_eq_true rfl, Nat.le_of_ble_eq_true rfl⟩ rfl (fun r84 m83 hJ => ?_)
  refine zq_icmp_eq (tgt := 651) d_Law_law_230 (by decide) (fun c => ?_) (fun c => ?_)
  · have hJ := hJ.1 c
    refine zr_less (L' := [some (.ref (zq_B + 0)), some (.ref 0), some (.ref 33), some (.int x3)]) ⟨rfl, ⟨rfl, ⟨rfl, ⟨rfl, trivial⟩⟩⟩⟩ ?_
    exact s_Law_law_L651  hR28  hJ
  · have hJ := hJ.2 c
    refine zq_iconst (v := 0) d_Law_law_233 zk_i0 ?_
    exact zq_iret d_Law_law_234 rfl (zm_isB.nar (Or.inl rfl)) (Nat.le_of_ble_eq_true rfl) (Nat.le_of_ble_eq_true rfl) ⟨_, _, rfl, rfl, hJ⟩
set_option maxHeartbeats 400000 in
theorem s_Law_law_L205 {l : Launch} {D : va_G} {sz : Nat} {Ls : Nat} {xs : Nat → Int32} {R28 : Int32 → zm → Prop} {K : Int32 → zm → Prop} (hR28 : ∀ {x3 : Int32} {m : zm}, R28 x3 m → zq_V (zk_g (l, D, sz, (Ls, xs))) ("RiichiTableLaw", code, 4, ret, false, room_1) 56 1853 28 [some (.ref (zq_B + 0)), some (.ref 0), some (.ref 33), some (.int x3)] [] (zm_hp m) (zm_QI K)) {x3 : Int32} {t0 : Int32} {t1 : Int32} {m : zm} (hJ : j_Law_law_L205 Ls xs R28 K x3 t0 t1 m) : zq_V (zk_g (l, D, sz, (Ls, xs))) ("RiichiTableLaw", code, 4, ret, false, room_1) 56 1853 205 [some (.ref (zq_B + 0)), some (.ref 0), some (.ref 33), some (.int x3)] [.int t0, .int t1, .ref 0] (zm_hp m) (zm_QI K) := by
  unfold j_Law_law_L205 at hJ
  refine zr_cvI (q := 0) (as := [.int t1, .int t0]) (st := []) d_Law_law_205 cc_Law_31 cv_Table_discard zs_Table (s_Table_discard  hJ) rfl ⟨Nat.le_of_ble_eq_true rfl, Nat.le_of_ble_eq_true rfl⟩ (Nat.le_of_ble_eq_true rfl) ⟨Nat.le_of_ble_eq_true rfl, Nat.le_of_ble_eq_true rfl⟩ rfl (fun r82 m81 hJ => ?_)
  refine zq_aload_n d_Law_law_208 rfl rfl ?_
  refine zq_aload_n d_Law_law_209 rfl rfl ?_
  refine zq_iload_n d_Law_law_210 rfl rfl ?_
  refine zq_iconst (v := 1) d_Law_law_211 zk_i1 ?_
  refine zq_iadd d_Law_law_212 ?_
  obtain ⟨hb, hJ⟩ := hJ
  refine zq_sload (i := 0) (x := (Ls, xs)) d_Law_law_213 rfl hb ?_
  refine zq_aload_n d_Law_law_214 rfl rfl ?_
  refine zq_iload_n d_Law_law_215 rfl rfl ?_
  refine zq_iconst (v := 2) d_Law_law_216 zk_i2 ?_
  refine zq_iadd d_Law_law_217 ?_
  obtain ⟨hb, hJ⟩ := hJ
  refine zq_sload (i := 0) (x := (Ls, xs)) d_Law_law_218 rfl hb ?_
  refine zq_if_eq (tgt := 226) d_Law_law_219 (by decide) (fun c => ?_) (fun c => ?_)
  · have hJ := hJ.1 c
    refine zq_iconst (v := 0) d_Law_law_226 zk_i0 ?_
    refine zr_less (L' := [some (.ref (zq_B + 0)), some (.ref 0), some (.ref 33), some (.int x3)]) ⟨rfl, ⟨rfl, ⟨rfl, ⟨rfl, trivial⟩⟩⟩⟩ ?_
    exact s_Law_law_L227  hR28  hJ
  · have hJ := hJ.2 c
    refine zq_iconst (v := 1) d_Law_law_222 zk_i1 ?_
    refine zq_goto (tgt := 227) d_Law_law_223 (by decide) ?_
    refine zr_less (L' := [some (.ref (zq_B + 0)), some (.ref 0), some (.ref 33), some (.int x3)]) ⟨rfl, ⟨rfl, ⟨rfl, ⟨rfl, trivial⟩⟩⟩⟩ ?_
    exact s_Law_law_L227  hR28  hJ
set_option maxHeartbeats 400000 in
theorem s_Law_law_L28 {l : Launch} {D : va_G} {sz : Nat} {Ls : Nat} {xs : Nat → Int32} {K : Int32 → zm → Prop} : ∀ (n : Nat) {x3 : Int32} {m : zm}, j_Law_law_L28 Ls xs  K n x3 m → zq_V (zk_g (l, D, sz, (Ls, xs))) ("RiichiTableLaw", code, 4, ret, false, room_1) 56 1853 28 [some (.ref (zq_B + 0)), some (.ref 0), some (.ref 33), some (.int x3)] [] (zm_hp m) (zm_QI K) := by
  intro n
  induction n with
  | zero =>
    intro x3 m hJ
    exact False.elim hJ
  | succ n ih =>
    intro x3 m hJ
    rw [j_Law_law_L28] at hJ
    refine zq_iload_n d_Law_law_28 rfl rfl ?_
    refine zq_aload_n d_Law_law_29 rfl rfl ?_
    refine zq_slen (i := 0) (x := (Ls, xs)) d_Law_law_30 rfl ?_
    refine zq_iconst (v := 4) d_Law_law_31 zk_i4 ?_
    refine zq_isub d_Law_law_32 ?_
    refine zq_icmp_gt (tgt := 657) d_Law_law_33 (by decide) (fun c => ?_) (fun c => ?_)
    · have hJ := hJ.1 c
      refine zq_iconst (v := 1) d_Law_law_657 zk_i1 ?_
      exact zq_iret d_Law_law_658 rfl (zm_isB.nar (Or.inr rfl)) (Nat.le_of_ble_eq_true rfl) (Nat.le_of_ble_eq_true rfl) ⟨_, _, rfl, rfl, hJ⟩
    · have hJ := hJ.2 c
      refine zq_aload_n d_Law_law_36 rfl rfl ?_
      refine zq_iload_n d_Law_law_37 rfl rfl ?_
      obtain ⟨hb, hJ⟩ := hJ
      refine zq_sload (i := 0) (x := (Ls, xs)) d_Law_law_38 rfl hb ?_
      refine zq_bipush (v := 31) d_Law_law_39 zk_b31 ?_
      refine zq_iand d_Law_law_41 ?_
      rcases Classical.em (Int32.toInt ((xs (Int32.toNatClampNeg x3)) &&& 31) < 0 ∨ ((20 : Nat) : Int) < Int32.toInt ((xs (Int32.toNatClampNeg x3)) &&& 31)) with hsw | hsw
      · have hJ := hJ.1 hsw
        refine zq_swOut (tgt := 651) d_Law_law_42 hsw (by decide) ?_
        refine zr_less (L' := [some (.ref (zq_B + 0)), some (.ref 0), some (.ref 33), some (.int x3)]) ⟨rfl, ⟨rfl, ⟨rfl, ⟨rfl, trivial⟩⟩⟩⟩ ?_
        exact s_Law_law_L651  ih  hJ
      · obtain ⟨jsw, hj1, hj2, hj3⟩ := zr_sw (by decide) hsw
        have hJ := hJ.2
        match jsw, hj1, hj2, hj3 with
        | 0, _, hj2, hj3 =>
          have hJ := hJ.1 hj2
          refine zq_swIn (tgt := 140) d_Law_law_42 (fun h => hsw (Or.inl h)) (fun h => hsw (Or.inr h)) (off := 98) (by rw [hj3]; rfl) (by decide) ?_
          refine zq_aload_n d_Law_law_140 rfl rfl ?_
          refine zq_aload_n d_Law_law_141 rfl rfl ?_
          refine zq_iload_n d_Law_law_142 rfl rfl ?_
          refine zq_iconst (v := 1) d_Law_law_143 zk_i1 ?_
          refine zq_iadd d_Law_law_144 ?_
          obtain ⟨hb, hJ⟩ := hJ
          refine zq_sload (i := 0) (x := (Ls, xs)) d_Law_law_145 rfl hb ?_
          refine zq_aload_n d_Law_law_146 rfl rfl ?_
          refine zq_iload_n d_Law_law_147 rfl rfl ?_
          refine zq_iconst (v := 2) d_Law_law_148 zk_i2 ?_
          refine zq_iadd d_Law_law_149 ?_
          obtain ⟨hb, hJ⟩ := hJ
          refine zq_sload (i := 0) (x := (Ls, xs)) d_Law_law_150 rfl hb ?_
          refine zr_cvI (q := 0) (as := [.int (xs (Int32.toNatClampNeg (x3 + 1))), .int (xs (Int32.toNatClampNeg (x3 + 2)))]) (st := []) d_Law_law_151 cc_Law_21 cv_Table_arrange zs_Table (s_Table_arrange  hJ) rfl ⟨Nat.le_of_ble_eq_true rfl, Nat.le_of_ble_eq_true rfl⟩ (Nat.le_of_ble_eq_true rfl) ⟨Nat.le_of_ble_eq_true rfl, Nat.le_of_ble_eq_true rfl⟩ rfl (fun r2 m1 hJ => ?_)
          refine zq_aload_n d_Law_law_154 rfl rfl ?_
          refine zq_aload_n d_Law_law_155 rfl rfl ?_
          refine zq_iload_n d_Law_law_156 rfl rfl ?_
          refine zq_iconst (v := 1) d_Law_law_157 zk_i1 ?_
          refine zq_iadd d_Law_law_158 ?_
          obtain ⟨hb, hJ⟩ := hJ
          refine zq_sload (i := 0) (x := (Ls, xs)) d_Law_law_159 rfl hb ?_
          refine zq_aload_n d_Law_law_160 rfl rfl ?_
          refine zq_iload_n d_Law_law_161 rfl rfl ?_
          refine zq_iconst (v := 2) d_Law_law_162 zk_i2 ?_
          refine zq_iadd d_Law_law_163 ?_
          obtain ⟨hb, hJ⟩ := hJ
          refine zq_sload (i := 0) (x := (Ls, xs)) d_Law_law_164 rfl hb ?_
          refine zr_cvI (q := 33) (as := [.int (xs (Int32.toNatClampNeg (x3 + 1))), .int (xs (Int32.toNatClampNeg (x3 + 2)))]) (st := [.int r2]) d_Law_law_165 cc_Law_25 cv_Model_arrange zs_Model (s_Model_arrange  hJ) rfl ⟨Nat.le_of_ble_eq_true rfl, Nat.le_of_ble_eq_true rfl⟩ (Nat.le_of_ble_eq_true rfl) ⟨Nat.le_of_ble_eq_true rfl, Nat.le_of_ble_eq_true rfl⟩ rfl (fun r4 m3 hJ => ?_)
          refine zq_icmp_eq (tgt := 651) d_Law_law_168 (by decide) (fun c => ?_) (fun c => ?_)
          · have hJ := hJ.1 c
            refine zr_less (L' := [some (.ref (zq_B + 0)), some (.ref 0), some (.ref 33), some (.int x3)]) ⟨rfl, ⟨rfl, ⟨rfl, ⟨rfl, trivial⟩⟩⟩⟩ ?_
            exact s_Law_law_L651  ih  hJ
          · have hJ := hJ.2 c
            refine zq_iconst (v := 0) d_Law_law_171 zk_i0 ?_
            exact zq_iret d_Law_law_172 rfl (zm_isB.nar (Or.inl rfl)) (Nat.le_of_ble_eq_true rfl) (Nat.le_of_ble_eq_true rfl) ⟨_, _, rfl, rfl, hJ⟩
        | 1, _, hj2, hj3 =>
          have hJ := hJ.2.1 hj2
          refine zq_swIn (tgt := 173) d_Law_law_42 (fun h => hsw (Or.inl h)) (fun h => hsw (Or.inr h)) (off := 131) (by rw [hj3]; rfl) (by decide) ?_
          refine zq_aload_n d_Law_law_173 rfl rfl ?_
          refine zr_cvI (q := 0) (as := []) (st := []) d_Law_law_174 cc_Law_26 cv_Table_deal zs_Table (s_Table_deal  hJ) rfl ⟨Nat.le_of_ble_eq_true rfl, Nat.le_of_ble_eq_true rfl⟩ (Nat.le_of_ble_eq_true rfl) ⟨Nat.le_of_ble_eq_true rfl, Nat.le_of_ble_eq_true rfl⟩ rfl (fun r6 m5 hJ => ?_)
          refine zq_aload_n d_Law_law_177 rfl rfl ?_
          refine zr_cvI (q := 33) (as := []) (st := [.int r6]) d_Law_law_178 cc_Law_30 cv_Model_deal zs_Model (s_Model_deal  hJ) rfl ⟨Nat.le_of_ble_eq_true rfl, Nat.le_of_ble_eq_true rfl⟩ (Nat.le_of_ble_eq_true rfl) ⟨Nat.le_of_ble_eq_true rfl, Nat.le_of_ble_eq_true rfl⟩ rfl (fun r8 m7 hJ => ?_)
          refine zq_icmp_eq (tgt := 651) d_Law_law_181 (by decide) (fun c => ?_) (fun c => ?_)
          · have hJ := hJ.1 c
            refine zr_less (L' := [some (.ref (zq_B + 0)), some (.ref 0), some (.ref 33), some (.int x3)]) ⟨rfl, ⟨rfl, ⟨rfl, ⟨rfl, trivial⟩⟩⟩⟩ ?_
            exact s_Law_law_L651  ih  hJ
          · have hJ := hJ.2 c
            refine zq_iconst (v := 0) d_Law_law_184 zk_i0 ?_
            exact zq_iret d_Law_law_185 rfl (zm_isB.nar (Or.inl rfl)) (Nat.le_of_ble_eq_true rfl) (Nat.le_of_ble_eq_true rfl) ⟨_, _, rfl, rfl, hJ⟩
        | 2, _, hj2, hj3 =>
          have hJ := hJ.2.2.1 hj2
          refine zq_swIn (tgt := 186) d_Law_law_42 (fun h => hsw (Or.inl h)) (fun h => hsw (Or.inr h)) (off := 144) (by rw [hj3]; rfl) (by decide) ?_
          refine zq_aload_n d_Law_law_186 rfl rfl ?_
          refine zq_aload_n d_Law_law_187 rfl rfl ?_
          refine zq_iload_n d_Law_law_188 rfl rfl ?_
          refine zq_iconst (v := 1) d_Law_law_189 zk_i1 ?_
          refine zq_iadd d_Law_law_190 ?_
          obtain ⟨hb, hJ⟩ := hJ
          refine zq_sload (i := 0) (x := (Ls, xs)) d_Law_law_191 rfl hb ?_
          refine zq_aload_n d_Law_law_192 rfl rfl ?_
          refine zq_iload_n d_Law_law_193 rfl rfl ?_
          refine zq_iconst (v := 2) d_Law_law_194 zk_i2 ?_
          refine zq_iadd d_Law_law_195 ?_
          obtain ⟨hb, hJ⟩ := hJ
          refine zq_sload (i := 0) (x := (Ls, xs)) d_Law_law_196 rfl hb ?_
          refine zq_if_eq (tgt := 204) d_Law_law_197 (by decide) (fun c => ?_) (fun c => ?_)
          · have hJ := hJ.1 c
            refine zq_iconst (v := 0) d_Law_law_204 zk_i0 ?_
            refine zr_less (L' := [some (.ref (zq_B + 0)), some (.ref 0), some (.ref 33), some (.int x3)]) ⟨rfl, ⟨rfl, ⟨rfl, ⟨rfl, trivial⟩⟩⟩⟩ ?_
            exact s_Law_law_L205  ih  hJ
          · have hJ := hJ.2 c
            refine zq_iconst (v := 1) d_Law_law_200 zk_i1 ?_
            refine zq_goto (tgt := 205) d_Law_law_201 (by decide) ?_
            refine zr_less (L' := [some (.ref (zq_B + 0)), some (.ref 0), some (.ref 33), some (.int x3)]) ⟨rfl, ⟨rfl, ⟨rfl, ⟨rfl, trivial⟩⟩⟩⟩ ?_
            exact s_Law_law_L205  ih  hJ
        | 3, _, hj2, hj3 =>
          have hJ := hJ.2.2.2.1 hj2
          refine zq_swIn (tgt := 235) d_Law_law_42 (fun h => hsw (Or.inl h)) (fun h => hsw (Or.inr h)) (off := 193) (by rw [hj3]; rfl) (by decide) ?_
          refine zq_aload_n d_Law_law_235 rfl rfl ?_
          refine zq_aload_n d_Law_law_236 rfl rfl ?_
          refine zq_iload_n d_Law_law_237 rfl rfl ?_
          refine zq_iconst (v := 1) d_Law_law_238 zk_i1 ?_
          refine zq_iadd d_Law_law_239 ?_
          obtain ⟨hb, hJ⟩ := hJ
          refine zq_sload (i := 0) (x := (Ls, xs)) d_Law_law_240 rfl hb ?_
          refine zr_cvI (q := 0) (as := [.int (xs (Int32.toNatClampNeg (x3 + 1)))]) (st := []) d_Law_law_241 cc_Law_36 cv_Table_quad zs_Table (s_Table_quad  hJ) rfl ⟨Nat.le_of_ble_eq_true rfl, Nat.le_of_ble_eq_true rfl⟩ (Nat.le_of_ble_eq_true rfl) ⟨Nat.le_of_ble_eq_true rfl, Nat.le_of_ble_eq_true rfl⟩ rfl (fun r10 m9 hJ => ?_)
          refine zq_aload_n d_Law_law_244 rfl rfl ?_
          refine zq_aload_n d_Law_law_245 rfl rfl ?_
          refine zq_iload_n d_Law_law_246 rfl rfl ?_
          refine zq_iconst (v := 1) d_Law_law_247 zk_i1 ?_
          refine zq_iadd d_Law_law_248 ?_
          obtain ⟨hb, hJ⟩ := hJ
          refine zq_sload (i := 0) (x := (Ls, xs)) d_Law_law_249 rfl hb ?_
          refine zr_cvI (q := 33) (as := [.int (xs (Int32.toNatClampNeg (x3 + 1)))]) (st := [.int r10]) d_Law_law_250 cc_Law_40 cv_Model_quad zs_Model (s_Model_quad  hJ) rfl ⟨Nat.le_of_ble_eq_true rfl, Nat.le_of_ble_eq_true rfl⟩ (Nat.le_of_ble_eq_true rfl) ⟨Nat.le_of_ble_eq_true rfl, Nat.le_of_ble_eq_true rfl⟩ rfl (fun r12 m11 hJ => ?_)
          refine zq_icmp_eq (tgt := 651) d_Law_law_253 (by decide) (fun c => ?_) (fun c => ?_)
          · have hJ := hJ.1 c
            refine zr_less (L' := [some (.ref (zq_B + 0)), some (.ref 0), some (.ref 33), some (.int x3)]) ⟨rfl, ⟨rfl, ⟨rfl, ⟨rfl, trivial⟩⟩⟩⟩ ?_
            exact s_Law_law_L651  ih  hJ
          · have hJ := hJ.2 c
            refine zq_iconst (v := 0) d_Law_law_256 zk_i0 ?_
            exact zq_iret d_Law_law_257 rfl (zm_isB.nar (Or.inl rfl)) (Nat.le_of_ble_eq_true rfl) (Nat.le_of_ble_eq_true rfl) ⟨_, _, rfl, rfl, hJ⟩
        | 4, _, hj2, hj3 =>
          have hJ := hJ.2.2.2.2.1 hj2
          refine zq_swIn (tgt := 258) d_Law_law_42 (fun h => hsw (Or.inl h)) (fun h => hsw (Or.inr h)) (off := 216) (by rw [hj3]; rfl) (by decide) ?_
          refine zq_aload_n d_Law_law_258 rfl rfl ?_
          refine zr_cvI (q := 0) (as := []) (st := []) d_Law_law_259 cc_Law_41 cv_Table_win zs_Table (s_Table_win  hJ) rfl ⟨Nat.le_of_ble_eq_true rfl, Nat.le_of_ble_eq_true rfl⟩ (Nat.le_of_ble_eq_true rfl) ⟨Nat.le_of_ble_eq_true rfl, Nat.le_of_ble_eq_true rfl⟩ rfl (fun r14 m13 hJ => ?_)
          refine zq_aload_n d_Law_law_262 rfl rfl ?_
          refine zr_cvI (q := 33) (as := []) (st := [.int r14]) d_Law_law_263 cc_Law_45 cv_Model_win zs_Model (s_Model_win  hJ) rfl ⟨Nat.le_of_ble_eq_true rfl, Nat.le_of_ble_eq_true rfl⟩ (Nat.le_of_ble_eq_true rfl) ⟨Nat.le_of_ble_eq_true rfl, Nat.le_of_ble_eq_true rfl⟩ rfl (fun r16 m15 hJ => ?_)
          refine zq_icmp_eq (tgt := 651) d_Law_law_266 (by decide) (fun c => ?_) (fun c => ?_)
          · have hJ := hJ.1 c
            refine zr_less (L' := [some (.ref (zq_B + 0)), some (.ref 0), some (.ref 33), some (.int x3)]) ⟨rfl, ⟨rfl, ⟨rfl, ⟨rfl, trivial⟩⟩⟩⟩ ?_
            exact s_Law_law_L651  ih  hJ
          · have hJ := hJ.2 c
            refine zq_iconst (v := 0) d_Law_law_269 zk_i0 ?_
            exact zq_iret d_Law_law_270 rfl (zm_isB.nar (Or.inl rfl)) (Nat.le_of_ble_eq_true rfl) (Nat.le_of_ble_eq_true rfl) ⟨_, _, rfl, rfl, hJ⟩
        | 5, _, hj2, hj3 =>
          have hJ := hJ.2.2.2.2.2.1 hj2
          refine zq_swIn (tgt := 271) d_Law_law_42 (fun h => hsw (Or.inl h)) (fun h => hsw (Or.inr h)) (off := 229) (by rw [hj3]; rfl) (by decide) ?_
          refine zq_aload_n d_Law_law_271 rfl rfl ?_
          refine zq_aload_n d_Law_law_272 rfl rfl ?_
          refine zq_iload_n d_Law_law_273 rfl rfl ?_
          refine zq_iconst (v := 1) d_Law_law_274 zk_i1 ?_
          refine zq_iadd d_Law_law_275 ?_
          obtain ⟨hb, hJ⟩ := hJ
          refine zq_sload (i := 0) (x := (Ls, xs)) d_Law_law_276 rfl hb ?_
          refine zr_cvI (q := 0) (as := [.int (xs (Int32.toNatClampNeg (x3 + 1)))]) (st := []) d_Law_law_277 cc_Law_46 cv_Table_options zs_Table (s_Table_options  hJ) rfl ⟨Nat.le_of_ble_eq_true rfl, Nat.le_of_ble_eq_true rfl⟩ (Nat.le_of_ble_eq_true rfl) ⟨Nat.le_of_ble_eq_true rfl, Nat.le_of_ble_eq_true rfl⟩ rfl (fun r18 m17 hJ => ?_)
          refine zq_aload_n d_Law_law_280 rfl rfl ?_
          refine zq_aload_n d_Law_law_281 rfl rfl ?_
          refine zq_iload_n d_Law_law_282 rfl rfl ?_
          refine zq_iconst (v := 1) d_Law_law_283 zk_i1 ?_
          refine zq_iadd d_Law_law_284 ?_
          obtain ⟨hb, hJ⟩ := hJ
          refine zq_sload (i := 0) (x := (Ls, xs)) d_Law_law_285 rfl hb ?_
          refine zr_cvI (q := 33) (as := [.int (xs (Int32.toNatClampNeg (x3 + 1)))]) (st := [.int r18]) d_Law_law_286 cc_Law_49 cv_Model_options zs_Model (s_Model_options  hJ) rfl ⟨Nat.le_of_ble_eq_true rfl, Nat.le_of_ble_eq_true rfl⟩ (Nat.le_of_ble_eq_true rfl) ⟨Nat.le_of_ble_eq_true rfl, Nat.le_of_ble_eq_true rfl⟩ rfl (fun r20 m19 hJ => ?_)
          refine zq_icmp_eq (tgt := 651) d_Law_law_289 (by decide) (fun c => ?_) (fun c => ?_)
          · have hJ := hJ.1 c
            refine zr_less (L' := [some (.ref (zq_B + 0)), some (.ref 0), some (.ref 33), some (.int x3)]) ⟨rfl, ⟨rfl, ⟨rfl, ⟨rfl, trivial⟩⟩⟩⟩ ?_
            exact s_Law_law_L651  ih  hJ
          · have hJ := hJ.2 c
            refine zq_iconst (v := 0) d_Law_law_292 zk_i0 ?_
            exact zq_iret d_Law_law_293 rfl (zm_isB.nar (Or.inl rfl)) (Nat.le_of_ble_eq_true rfl) (Nat.le_of_ble_eq_true rfl) ⟨_, _, rfl, rfl, hJ⟩
        | 6, _, hj2, hj3 =>
          have hJ := hJ.2.2.2.2.2.2.1 hj2
          refine zq_swIn (tgt := 294) d_Law_law_42 (fun h => hsw (Or.inl h)) (fun h => hsw (Or.inr h)) (off := 252) (by rw [hj3]; rfl) (by decide) ?_
          refine zq_aload_n d_Law_law_294 rfl rfl ?_
          refine zq_aload_n d_Law_law_295 rfl rfl ?_
          refine zq_iload_n d_Law_law_296 rfl rfl ?_
          refine zq_iconst (v := 1) d_Law_law_297 zk_i1 ?_
          refine zq_iadd d_Law_law_298 ?_
          obtain ⟨hb, hJ⟩ := hJ
          refine zq_sload (i := 0) (x := (Ls, xs)) d_Law_law_299 rfl hb ?_
          refine zq_aload_n d_Law_law_300 rfl rfl ?_
          refine zq_iload_n d_Law_law_301 rfl rfl ?_
          refine zq_iconst (v := 2) d_Law_law_302 zk_i2 ?_
          refine zq_iadd d_Law_law_303 ?_
          obtain ⟨hb, hJ⟩ := hJ
          refine zq_sload (i := 0) (x := (Ls, xs)) d_Law_law_304 rfl hb ?_
          refine zq_aload_n d_Law_law_305 rfl rfl ?_
          refine zq_iload_n d_Law_law_306 rfl rfl ?_
          refine zq_iconst (v := 3) d_Law_law_307 zk_i3 ?_
          refine zq_iadd d_Law_law_308 ?_
          obtain ⟨hb, hJ⟩ := hJ
          refine zq_sload (i := 0) (x := (Ls, xs)) d_Law_law_309 rfl hb ?_
          refine zr_cvI (q := 0) (as := [.int (xs (Int32.toNatClampNeg (x3 + 1))), .int (xs (Int32.toNatClampNeg (x3 + 2))), .int (xs (Int32.toNatClampNeg (x3 + 3)))]) (st := []) d_Law_law_310 cc_Law_50 cv_Table_claim zs_Table (s_Table_claim  hJ) rfl ⟨Nat.le_of_ble_eq_true rfl, Nat.le_of_ble_eq_true rfl⟩ (Nat.le_of_ble_eq_true rfl) ⟨Nat.le_of_ble_eq_true rfl, Nat.le_of_ble_eq_true rfl⟩ rfl (fun r22 m21 hJ => ?_)
          refine zq_aload_n d_Law_law_313 rfl rfl ?_
          refine zq_aload_n d_Law_law_314 rfl rfl ?_
          refine zq_iload_n d_Law_law_315 rfl rfl ?_
          refine zq_iconst (v := 1) d_Law_law_316 zk_i1 ?_
          refine zq_iadd d_Law_law_317 ?_
          obtain ⟨hb, hJ⟩ := hJ
          refine zq_sload (i := 0) (x := (Ls, xs)) d_Law_law_318 rfl hb ?_
          refine zq_aload_n d_Law_law_319 rfl rfl ?_
          refine zq_iload_n d_Law_law_320 rfl rfl ?_
          refine zq_iconst (v := 2) d_Law_law_321 zk_i2 ?_
          refine zq_iadd d_Law_law_322 ?_
          obtain ⟨hb, hJ⟩ := hJ
          refine zq_sload (i := 0) (x := (Ls, xs)) d_Law_law_323 rfl hb ?_
          refine zq_aload_n d_Law_law_324 rfl rfl ?_
          refine zq_iload_n d_Law_law_325 rfl rfl ?_
          refine zq_iconst (v := 3) d_Law_law_326 zk_i3 ?_
          refine zq_iadd d_Law_law_327 ?_
          obtain ⟨hb, hJ⟩ := hJ
          refine zq_sload (i := 0) (x := (Ls, xs)) d_Law_law_328 rfl hb ?_
          refine zr_cvI (q := 33) (as := [.int (xs (Int32.toNatClampNeg (x3 + 1))), .int (xs (Int32.toNatClampNeg (x3 + 2))), .int (xs (Int32.toNatClampNeg (x3 + 3)))]) (st := [.int r22]) d_Law_law_329 cc_Law_54 cv_Model_claim zs_Model (s_Model_claim  hJ) rfl ⟨Nat.le_of_ble_eq_true rfl, Nat.le_of_ble_eq_true rfl⟩ (Nat.le_of_ble_eq_true rfl) ⟨Nat.le_of_ble_eq_true rfl, Nat.le_of_ble_eq_true rfl⟩ rfl (fun r24 m23 hJ => ?_)
          refine zq_icmp_eq (tgt := 651) d_Law_law_332 (by decide) (fun c => ?_) (fun c => ?_)
          · have hJ := hJ.1 c
            refine zr_less (L' := [some (.ref (zq_B + 0)), some (.ref 0), some (.ref 33), some (.int x3)]) ⟨rfl, ⟨rfl, ⟨rfl, ⟨rfl, trivial⟩⟩⟩⟩ ?_
            exact s_Law_law_L651  ih  hJ
          · have hJ := hJ.2 c
            refine zq_iconst (v := 0) d_Law_law_335 zk_i0 ?_
            exact zq_iret d_Law_law_336 rfl (zm_isB.nar (Or.inl rfl)) (Nat.le_of_ble_eq_true rfl) (Nat.le_of_ble_eq_true rfl) ⟨_, _, rfl, rfl, hJ⟩
        | 7, _, hj2, hj3 =>
          have hJ := hJ.2.2.2.2.2.2.2.1 hj2
          refine zq_swIn (tgt := 337) d_Law_law_42 (fun h => hsw (Or.inl h)) (fun h => hsw (Or.inr h)) (off := 295) (by rw [hj3]; rfl) (by decide) ?_
          refine zq_aload_n d_Law_law_337 rfl rfl ?_
          refine zr_cvI (q := 0) (as := []) (st := []) d_Law_law_338 cc_Law_55 cv_Table_next zs_Table (s_Table_next  hJ) rfl ⟨Nat.le_of_ble_eq_true rfl, Nat.le_of_ble_eq_true rfl⟩ (Nat.le_of_ble_eq_true rfl) ⟨Nat.le_of_ble_eq_true rfl, Nat.le_of_ble_eq_true rfl⟩ rfl (fun r26 m25 hJ => ?_)
          refine zq_aload_n d_Law_law_341 rfl rfl ?_
          refine zr_cvI (q := 33) (as := []) (st := [.int r26]) d_Law_law_342 cc_Law_58 cv_Model_next zs_Model (s_Model_next  hJ) rfl ⟨Nat.le_of_ble_eq_true rfl, Nat.le_of_ble_eq_true rfl⟩ (Nat.le_of_ble_eq_true rfl) ⟨Nat.le_of_ble_eq_true rfl, Nat.le_of_ble_eq_true rfl⟩ rfl (fun r28 m27 hJ => ?_)
          refine zq_icmp_eq (tgt := 651) d_Law_law_345 (by decide) (fun c => ?_) (fun c => ?_)
          · have hJ := hJ.1 c
            refine zr_less (L' := [some (.ref (zq_B + 0)), some (.ref 0), some (.ref 33), some (.int x3)]) ⟨rfl, ⟨rfl, ⟨rfl, ⟨rfl, trivial⟩⟩⟩⟩ ?_
            exact s_Law_law_L651  ih  hJ
          · have hJ := hJ.2 c
            refine zq_iconst (v := 0) d_Law_law_348 zk_i0 ?_
            exact zq_iret d_Law_law_349 rfl (zm_isB.nar (Or.inl rfl)) (Nat.le_of_ble_eq_true rfl) (Nat.le_of_ble_eq_true rfl) ⟨_, _, rfl, rfl, hJ⟩
        | 8, _, hj2, hj3 =>
          have hJ := hJ.2.2.2.2.2.2.2.2.1 hj2
          refine zq_swIn (tgt := 350) d_Law_law_42 (fun h => hsw (Or.inl h)) (fun h => hsw (Or.inr h)) (off := 308) (by rw [hj3]; rfl) (by decide) ?_
          refine zq_aload_n d_Law_law_350 rfl rfl ?_
          refine zr_cvI (q := 0) (as := []) (st := []) d_Law_law_351 cc_Law_59 cv_Table_phase zs_Table (s_Table_phase  hJ) rfl ⟨Nat.le_of_ble_eq_true rfl, Nat.le_of_ble_eq_true rfl⟩ (Nat.le_of_ble_eq_true rfl) ⟨Nat.le_of_ble_eq_true rfl, Nat.le_of_ble_eq_true rfl⟩ rfl (fun r30 m29 hJ => ?_)
          refine zq_aload_n d_Law_law_354 rfl rfl ?_
          refine zr_cvI (q := 33) (as := []) (st := [.int r30]) d_Law_law_355 cc_Law_62 cv_Model_phase zs_Model (s_Model_phase  hJ) rfl ⟨Nat.le_of_ble_eq_true rfl, Nat.le_of_ble_eq_true rfl⟩ (Nat.le_of_ble_eq_true rfl) ⟨Nat.le_of_ble_eq_true rfl, Nat.le_of_ble_eq_true rfl⟩ rfl (fun r32 m31 hJ => ?_)
          refine zq_icmp_eq (tgt := 651) d_Law_law_358 (by decide) (fun c => ?_) (fun c => ?_)
          · have hJ := hJ.1 c
            refine zr_less (L' := [some (.ref (zq_B + 0)), some (.ref 0), some (.ref 33), some (.int x3)]) ⟨rfl, ⟨rfl, ⟨rfl, ⟨rfl, trivial⟩⟩⟩⟩ ?_
            exact s_Law_law_L651  ih  hJ
          · have hJ := hJ.2 c
            refine zq_iconst (v := 0) d_Law_law_361 zk_i0 ?_
            exact zq_iret d_Law_law_362 rfl (zm_isB.nar (Or.inl rfl)) (Nat.le_of_ble_eq_true rfl) (Nat.le_of_ble_eq_true rfl) ⟨_, _, rfl, rfl, hJ⟩
        | 9, _, hj2, hj3 =>
          have hJ := hJ.2.2.2.2.2.2.2.2.2.1 hj2
          refine zq_swIn (tgt := 363) d_Law_law_42 (fun h => hsw (Or.inl h)) (fun h => hsw (Or.inr h)) (off := 321) (by rw [hj3]; rfl) (by decide) ?_
          refine zq_aload_n d_Law_law_363 rfl rfl ?_
          refine zr_cvI (q := 0) (as := []) (st := []) d_Law_law_364 cc_Law_63 cv_Table_who zs_Table (s_Table_who  hJ) rfl ⟨Nat.le_of_ble_eq_true rfl, Nat.le_of_ble_eq_true rfl⟩ (Nat.le_of_ble_eq_true rfl) ⟨Nat.le_of_ble_eq_true rfl, Nat.le_of_ble_eq_true rfl⟩ rfl (fun r34 m33 hJ => ?_)
          refine zq_aload_n d_Law_law_367 rfl rfl ?_
          refine zr_cvI (q := 33) (as := []) (st := [.int r34]) d_Law_law_368 cc_Law_66 cv_Model_who zs_Model (s_Model_who  hJ) rfl ⟨Nat.le_of_ble_eq_true rfl, Nat.le_of_ble_eq_true rfl⟩ (Nat.le_of_ble_eq_true rfl) ⟨Nat.le_of_ble_eq_true rfl, Nat.le_of_ble_eq_true rfl⟩ rfl (fun r36 m35 hJ => ?_)
          refine zq_icmp_eq (tgt := 651) d_Law_law_371 (by decide) (fun c => ?_) (fun c => ?_)
          · have hJ := hJ.1 c
            refine zr_less (L' := [some (.ref (zq_B + 0)), some (.ref 0), some (.ref 33), some (.int x3)]) ⟨rfl, ⟨rfl, ⟨rfl, ⟨rfl, trivial⟩⟩⟩⟩ ?_
            exact s_Law_law_L651  ih  hJ
          · have hJ := hJ.2 c
            refine zq_iconst (v := 0) d_Law_law_374 zk_i0 ?_
            exact zq_iret d_Law_law_375 rfl (zm_isB.nar (Or.inl rfl)) (Nat.le_of_ble_eq_true rfl) (Nat.le_of_ble_eq_true rfl) ⟨_, _, rfl, rfl, hJ⟩
        | 10, _, hj2, hj3 =>
          have hJ := hJ.2.2.2.2.2.2.2.2.2.2.1 hj2
          refine zq_swIn (tgt := 376) d_Law_law_42 (fun h => hsw (Or.inl h)) (fun h => hsw (Or.inr h)) (off := 334) (by rw [hj3]; rfl) (by decide) ?_
          refine zq_aload_n d_Law_law_376 rfl rfl ?_
          refine zr_cvI (q := 0) (as := []) (st := []) d_Law_law_377 cc_Law_67 cv_Table_drawn zs_Table (s_Table_drawn  hJ) rfl ⟨Nat.le_of_ble_eq_true rfl, Nat.le_of_ble_eq_true rfl⟩ (Nat.le_of_ble_eq_true rfl) ⟨Nat.le_of_ble_eq_true rfl, Nat.le_of_ble_eq_true rfl⟩ rfl (fun r38 m37 hJ => ?_)
          refine zq_aload_n d_Law_law_380 rfl rfl ?_
          refine zr_cvI (q := 33) (as := []) (st := [.int r38]) d_Law_law_381 cc_Law_70 cv_Model_drawn zs_Model (s_Model_drawn  hJ) rfl ⟨Nat.le_of_ble_eq_true rfl, Nat.le_of_ble_eq_true rfl⟩ (Nat.le_of_ble_eq_true rfl) ⟨Nat.le_of_ble_eq_true rfl, Nat.le_of_ble_eq_true rfl⟩ rfl (fun r40 m39 hJ => ?_)
          refine zq_icmp_eq (tgt := 651) d_Law_law_384 (by decide) (fun c => ?_) (fun c => ?_)
          · have hJ := hJ.1 c
            refine zr_less (L' := [some (.ref (zq_B + 0)), some (.ref 0), some (.ref 33), some (.int x3)]) ⟨rfl, ⟨rfl, ⟨rfl, ⟨rfl, trivial⟩⟩⟩⟩ ?_
            exact s_Law_law_L651  ih  hJ
          · have hJ := hJ.2 c
            refine zq_iconst (v := 0) d_Law_law_387 zk_i0 ?_
            exact zq_iret d_Law_law_388 rfl (zm_isB.nar (Or.inl rfl)) (Nat.le_of_ble_eq_true rfl) (Nat.le_of_ble_eq_true rfl) ⟨_, _, rfl, rfl, hJ⟩
        | 11, _, hj2, hj3 =>
          have hJ := hJ.2.2.2.2.2.2.2.2.2.2.2.1 hj2
          refine zq_swIn (tgt := 389) d_Law_law_42 (fun h => hsw (Or.inl h)) (fun h => hsw (Or.inr h)) (off := 347) (by rw [hj3]; rfl) (by decide) ?_
          refine zq_aload_n d_Law_law_389 rfl rfl ?_
          refine zq_aload_n d_Law_law_390 rfl rfl ?_
          refine zq_iload_n d_Law_law_391 rfl rfl ?_
          refine zq_iconst (v := 1) d_Law_law_392 zk_i1 ?_
          refine zq_iadd d_Law_law_393 ?_
          obtain ⟨hb, hJ⟩ := hJ
          refine zq_sload (i := 0) (x := (Ls, xs)) d_Law_law_394 rfl hb ?_
          refine zq_aload_n d_Law_law_395 rfl rfl ?_
          refine zq_iload_n d_Law_law_396 rfl rfl ?_
          refine zq_iconst (v := 2) d_Law_law_397 zk_i2 ?_
          refine zq_iadd d_Law_law_398 ?_
          obtain ⟨hb, hJ⟩ := hJ
          refine zq_sload (i := 0) (x := (Ls, xs)) d_Law_law_399 rfl hb ?_
          refine zr_cvI (q := 0) (as := [.int (xs (Int32.toNatClampNeg (x3 + 1))), .int (xs (Int32.toNatClampNeg (x3 + 2)))]) (st := []) d_Law_law_400 cc_Law_71 cv_Table_concealed zs_Table (s_Table_concealed  hJ) rfl ⟨Nat.le_of_ble_eq_true rfl, Nat.le_of_ble_eq_true rfl⟩ (Nat.le_of_ble_eq_true rfl) ⟨Nat.le_of_ble_eq_true rfl, Nat.le_of_ble_eq_true rfl⟩ rfl (fun r42 m41 hJ => ?_)
          refine zq_aload_n d_Law_law_403 rfl rfl ?_
          refine zq_aload_n d_Law_law_404 rfl rfl ?_
          refine zq_iload_n d_Law_law_405 rfl rfl ?_
          refine zq_iconst (v := 1) d_Law_law_406 zk_i1 ?_
          refine zq_iadd d_Law_law_407 ?_
          obtain ⟨hb, hJ⟩ := hJ
          refine zq_sload (i := 0) (x := (Ls, xs)) d_Law_law_408 rfl hb ?_
          refine zq_aload_n d_Law_law_409 rfl rfl ?_
          refine zq_iload_n d_Law_law_410 rfl rfl ?_
          refine zq_iconst (v := 2) d_Law_law_411 zk_i2 ?_
          refine zq_iadd d_Law_law_412 ?_
          obtain ⟨hb, hJ⟩ := hJ
          refine zq_sload (i := 0) (x := (Ls, xs)) d_Law_law_413 rfl hb ?_
          refine zr_cvI (q := 33) (as := [.int (xs (Int32.toNatClampNeg (x3 + 1))), .int (xs (Int32.toNatClampNeg (x3 + 2)))]) (st := [.int r42]) d_Law_law_414 cc_Law_75 cv_Model_concealed zs_Model (s_Model_concealed  hJ) rfl ⟨Nat.le_of_ble_eq_true rfl, Nat.le_of_ble_eq_true rfl⟩ (Nat.le_of_ble_eq_true rfl) ⟨Nat.le_of_ble_eq_true rfl, Nat.le_of_ble_eq_true rfl⟩ rfl (fun r44 m43 hJ => ?_)
          refine zq_icmp_eq (tgt := 651) d_Law_law_417 (by decide) (fun c => ?_) (fun c => ?_)
          · have hJ := hJ.1 c
            refine zr_less (L' := [some (.ref (zq_B + 0)), some (.ref 0), some (.ref 33), some (.int x3)]) ⟨rfl, ⟨rfl, ⟨rfl, ⟨rfl, trivial⟩⟩⟩⟩ ?_
            exact s_Law_law_L651  ih  hJ
          · have hJ := hJ.2 c
            refine zq_iconst (v := 0) d_Law_law_420 zk_i0 ?_
            exact zq_iret d_Law_law_421 rfl (zm_isB.nar (Or.inl rfl)) (Nat.le_of_ble_eq_true rfl) (Nat.le_of_ble_eq_true rfl) ⟨_, _, rfl, rfl, hJ⟩
        | 12, _, hj2, hj3 =>
          have hJ := hJ.2.2.2.2.2.2.2.2.2.2.2.2.1 hj2
          refine zq_swIn (tgt := 422) d_Law_law_42 (fun h => hsw (Or.inl h)) (fun h => hsw (Or.inr h)) (off := 380) (by rw [hj3]; rfl) (by decide) ?_
          refine zq_aload_n d_Law_law_422 rfl rfl ?_
          refine zq_aload_n d_Law_law_423 rfl rfl ?_
          refine zq_iload_n d_Law_law_424 rfl rfl ?_
          refine zq_iconst (v := 1) d_Law_law_425 zk_i1 ?_
          refine zq_iadd d_Law_law_426 ?_
          obtain ⟨hb, hJ⟩ := hJ
          refine zq_sload (i := 0) (x := (Ls, xs)) d_Law_law_427 rfl hb ?_
          refine zq_aload_n d_Law_law_428 rfl rfl ?_
          refine zq_iload_n d_Law_law_429 rfl rfl ?_
          refine zq_iconst (v := 2) d_Law_law_430 zk_i2 ?_
          refine zq_iadd d_Law_law_431 ?_
          obtain ⟨hb, hJ⟩ := hJ
          refine zq_sload (i := 0) (x := (Ls, xs)) d_Law_law_432 rfl hb ?_
          refine zr_cvI (q := 0) (as := [.int (xs (Int32.toNatClampNeg (x3 + 1))), .int (xs (Int32.toNatClampNeg (x3 + 2)))]) (st := []) d_Law_law_433 cc_Law_76 cv_Table_meld zs_Table (s_Table_meld  hJ) rfl ⟨Nat.le_of_ble_eq_true rfl, Nat.le_of_ble_eq_true rfl⟩ (Nat.le_of_ble_eq_true rfl) ⟨Nat.le_of_ble_eq_true rfl, Nat.le_of_ble_eq_true rfl⟩ rfl (fun r46 m45 hJ => ?_)
          refine zq_aload_n d_Law_law_436 rfl rfl ?_
          refine zq_aload_n d_Law_law_437 rfl rfl ?_
          refine zq_iload_n d_Law_law_438 rfl rfl ?_
          refine zq_iconst (v := 1) d_Law_law_439 zk_i1 ?_
          refine zq_iadd d_Law_law_440 ?_
          obtain ⟨hb, hJ⟩ := hJ
          refine zq_sload (i := 0) (x := (Ls, xs)) d_Law_law_441 rfl hb ?_
          refine zq_aload_n d_Law_law_442 rfl rfl ?_
          refine zq_iload_n d_Law_law_443 rfl rfl ?_
          refine zq_iconst (v := 2) d_Law_law_444 zk_i2 ?_
          refine zq_iadd d_Law_law_445 ?_
          obtain ⟨hb, hJ⟩ := hJ
          refine zq_sload (i := 0) (x := (Ls, xs)) d_Law_law_446 rfl hb ?_
          refine zr_cvI (q := 33) (as := [.int (xs (Int32.toNatClampNeg (x3 + 1))), .int (xs (Int32.toNatClampNeg (x3 + 2)))]) (st := [.int r46]) d_Law_law_447 cc_Law_79 cv_Model_meld zs_Model (s_Model_meld  hJ) rfl ⟨Nat.le_of_ble_eq_true rfl, Nat.le_of_ble_eq_true rfl⟩ (Nat.le_of_ble_eq_true rfl) ⟨Nat.le_of_ble_eq_true rfl, Nat.le_of_ble_eq_true rfl⟩ rfl (fun r48 m47 hJ => ?_)
          refine zq_icmp_eq (tgt := 651) d_Law_law_450 (by decide) (fun c => ?_) (fun c => ?_)
          · have hJ := hJ.1 c
            refine zr_less (L' := [some (.ref (zq_B + 0)), some (.ref 0), some (.ref 33), some (.int x3)]) ⟨rfl, ⟨rfl, ⟨rfl, ⟨rfl, trivial⟩⟩⟩⟩ ?_
            exact s_Law_law_L651  ih  hJ
          · have hJ := hJ.2 c
            refine zq_iconst (v := 0) d_Law_law_453 zk_i0 ?_
            exact zq_iret d_Law_law_454 rfl (zm_isB.nar (Or.inl rfl)) (Nat.le_of_ble_eq_true rfl) (Nat.le_of_ble_eq_true rfl) ⟨_, _, rfl, rfl, hJ⟩
        | 13, _, hj2, hj3 =>
          have hJ := hJ.2.2.2.2.2.2.2.2.2.2.2.2.2.1 hj2
          refine zq_swIn (tgt := 455) d_Law_law_42 (fun h => hsw (Or.inl h)) (fun h => hsw (Or.inr h)) (off := 413) (by rw [hj3]; rfl) (by decide) ?_
          refine zq_aload_n d_Law_law_455 rfl rfl ?_
          refine zq_aload_n d_Law_law_456 rfl rfl ?_
          refine zq_iload_n d_Law_law_457 rfl rfl ?_
          refine zq_iconst (v := 1) d_Law_law_458 zk_i1 ?_
          refine zq_iadd d_Law_law_459 ?_
          obtain ⟨hb, hJ⟩ := hJ
          refine zq_sload (i := 0) (x := (Ls, xs)) d_Law_law_460 rfl hb ?_
          refine zq_aload_n d_Law_law_461 rfl rfl ?_
          refine zq_iload_n d_Law_law_462 rfl rfl ?_
          refine zq_iconst (v := 2) d_Law_law_463 zk_i2 ?_
          refine zq_iadd d_Law_law_464 ?_
          obtain ⟨hb, hJ⟩ := hJ
          refine zq_sload (i := 0) (x := (Ls, xs)) d_Law_law_465 rfl hb ?_
          refine zr_cvI (q := 0) (as := [.int (xs (Int32.toNatClampNeg (x3 + 1))), .int (xs (Int32.toNatClampNeg (x3 + 2)))]) (st := []) d_Law_law_466 cc_Law_80 cv_Table_river zs_Table (s_Table_river  hJ) rfl ⟨Nat.le_of_ble_eq_true rfl, Nat.le_of_ble_eq_true rfl⟩ (Nat.le_of_ble_eq_true rfl) ⟨Nat.le_of_ble_eq_true rfl, Nat.le_of_ble_eq_true rfl⟩ rfl (fun r50 m49 hJ => ?_)
          refine zq_aload_n d_Law_law_469 rfl rfl ?_
          refine zq_aload_n d_Law_law_470 rfl rfl ?_
          refine zq_iload_n d_Law_law_471 rfl rfl ?_
          refine zq_iconst (v := 1) d_Law_law_472 zk_i1 ?_
          refine zq_iadd d_Law_law_473 ?_
          obtain ⟨hb, hJ⟩ := hJ
          refine zq_sload (i := 0) (x := (Ls, xs)) d_Law_law_474 rfl hb ?_
          refine zq_aload_n d_Law_law_475 rfl rfl ?_
          refine zq_iload_n d_Law_law_476 rfl rfl ?_
          refine zq_iconst (v := 2) d_Law_law_477 zk_i2 ?_
          refine zq_iadd d_Law_law_478 ?_
          obtain ⟨hb, hJ⟩ := hJ
          refine zq_sload (i := 0) (x := (Ls, xs)) d_Law_law_479 rfl hb ?_
          refine zr_cvI (q := 33) (as := [.int (xs (Int32.toNatClampNeg (x3 + 1))), .int (xs (Int32.toNatClampNeg (x3 + 2)))]) (st := [.int r50]) d_Law_law_480 cc_Law_83 cv_Model_river zs_Model (s_Model_river  hJ) rfl ⟨Nat.le_of_ble_eq_true rfl, Nat.le_of_ble_eq_true rfl⟩ (Nat.le_of_ble_eq_true rfl) ⟨Nat.le_of_ble_eq_true rfl, Nat.le_of_ble_eq_true rfl⟩ rfl (fun r52 m51 hJ => ?_)
          refine zq_icmp_eq (tgt := 651) d_Law_law_483 (by decide) (fun c => ?_) (fun c => ?_)
          · have hJ := hJ.1 c
            refine zr_less (L' := [some (.ref (zq_B + 0)), some (.ref 0), some (.ref 33), some (.int x3)]) ⟨rfl, ⟨rfl, ⟨rfl, ⟨rfl, trivial⟩⟩⟩⟩ ?_
            exact s_Law_law_L651  ih  hJ
          · have hJ := hJ.2 c
            refine zq_iconst (v := 0) d_Law_law_486 zk_i0 ?_
            exact zq_iret d_Law_law_487 rfl (zm_isB.nar (Or.inl rfl)) (Nat.le_of_ble_eq_true rfl) (Nat.le_of_ble_eq_true rfl) ⟨_, _, rfl, rfl, hJ⟩
        | 14, _, hj2, hj3 =>
          have hJ := hJ.2.2.2.2.2.2.2.2.2.2.2.2.2.2.1 hj2
          refine zq_swIn (tgt := 488) d_Law_law_42 (fun h => hsw (Or.inl h)) (fun h => hsw (Or.inr h)) (off := 446) (by rw [hj3]; rfl) (by decide) ?_
          refine zq_aload_n d_Law_law_488 rfl rfl ?_
          refine zq_aload_n d_Law_law_489 rfl rfl ?_
          refine zq_iload_n d_Law_law_490 rfl rfl ?_
          refine zq_iconst (v := 1) d_Law_law_491 zk_i1 ?_
          refine zq_iadd d_Law_law_492 ?_
          obtain ⟨hb, hJ⟩ := hJ
          refine zq_sload (i := 0) (x := (Ls, xs)) d_Law_law_493 rfl hb ?_
          refine zr_cvL (q := 0) (as := [.int (xs (Int32.toNatClampNeg (x3 + 1)))]) (st := []) d_Law_law_494 cc_Law_84 cv_Table_waits zs_Table (s_Table_waits  hJ) rfl ⟨Nat.le_of_ble_eq_true rfl, Nat.le_of_ble_eq_true rfl⟩ (Nat.le_of_ble_eq_true rfl) ⟨Nat.le_of_ble_eq_true rfl, Nat.le_of_ble_eq_true rfl⟩ rfl (fun r54 m53 hJ => ?_)
          refine zq_aload_n d_Law_law_497 rfl rfl ?_
          refine zq_aload_n d_Law_law_498 rfl rfl ?_
          refine zq_iload_n d_Law_law_499 rfl rfl ?_
          refine zq_iconst (v := 1) d_Law_law_500 zk_i1 ?_
          refine zq_iadd d_Law_law_501 ?_
          obtain ⟨hb, hJ⟩ := hJ
          refine zq_sload (i := 0) (x := (Ls, xs)) d_Law_law_502 rfl hb ?_
          refine zr_cvL (q := 33) (as := [.int (xs (Int32.toNatClampNeg (x3 + 1)))]) (st := [.long r54]) d_Law_law_503 cc_Law_88 cv_Model_waits zs_Model (s_Model_waits  hJ) rfl ⟨Nat.le_of_ble_eq_true rfl, Nat.le_of_ble_eq_true rfl⟩ (Nat.le_of_ble_eq_true rfl) ⟨Nat.le_of_ble_eq_true rfl, Nat.le_of_ble_eq_true rfl⟩ rfl (fun r56 m55 hJ => ?_)
          refine zq_lcmp d_Law_law_506 ?_
          refine zq_if_eq (tgt := 651) d_Law_law_507 (by decide) (fun c => ?_) (fun c => ?_)
          · have hJ := hJ.1 c
            refine zr_less (L' := [some (.ref (zq_B + 0)), some (.ref 0), some (.ref 33), some (.int x3)]) ⟨rfl, ⟨rfl, ⟨rfl, ⟨rfl, trivial⟩⟩⟩⟩ ?_
            exact s_Law_law_L651  ih  hJ
          · have hJ := hJ.2 c
            refine zq_iconst (v := 0) d_Law_law_510 zk_i0 ?_
            exact zq_iret d_Law_law_511 rfl (zm_isB.nar (Or.inl rfl)) (Nat.le_of_ble_eq_true rfl) (Nat.le_of_ble_eq_true rfl) ⟨_, _, rfl, rfl, hJ⟩
        | 15, _, hj2, hj3 =>
          have hJ := hJ.2.2.2.2.2.2.2.2.2.2.2.2.2.2.2.1 hj2
          refine zq_swIn (tgt := 512) d_Law_law_42 (fun h => hsw (Or.inl h)) (fun h => hsw (Or.inr h)) (off := 470) (by rw [hj3]; rfl) (by decide) ?_
          refine zq_aload_n d_Law_law_512 rfl rfl ?_
          refine zq_aload_n d_Law_law_513 rfl rfl ?_
          refine zq_iload_n d_Law_law_514 rfl rfl ?_
          refine zq_iconst (v := 1) d_Law_law_515 zk_i1 ?_
          refine zq_iadd d_Law_law_516 ?_
          obtain ⟨hb, hJ⟩ := hJ
          refine zq_sload (i := 0) (x := (Ls, xs)) d_Law_law_517 rfl hb ?_
          refine zr_cvI (q := 0) (as := [.int (xs (Int32.toNatClampNeg (x3 + 1)))]) (st := []) d_Law_law_518 cc_Law_89 cv_Table_furiten zs_Table (s_Table_furiten  hJ) rfl ⟨Nat.le_of_ble_eq_true rfl, Nat.le_of_ble_eq_true rfl⟩ (Nat.le_of_ble_eq_true rfl) ⟨Nat.le_of_ble_eq_true rfl, Nat.le_of_ble_eq_true rfl⟩ rfl (fun r58 m57 hJ => ?_)
          refine zq_aload_n d_Law_law_521 rfl rfl ?_
          refine zq_aload_n d_Law_law_522 rfl rfl ?_
          refine zq_iload_n d_Law_law_523 rfl rfl ?_
          refine zq_iconst (v := 1) d_Law_law_524 zk_i1 ?_
          refine zq_iadd d_Law_law_525 ?_
          obtain ⟨hb, hJ⟩ := hJ
          refine zq_sload (i := 0) (x := (Ls, xs)) d_Law_law_526 rfl hb ?_
          refine zr_cvI (q := 33) (as := [.int (xs (Int32.toNatClampNeg (x3 + 1)))]) (st := [.int r58]) d_Law_law_527 cc_Law_93 cv_Model_furiten zs_Model (s_Model_furiten  hJ) rfl ⟨Nat.le_of_ble_eq_true rfl, Nat.le_of_ble_eq_true rfl⟩ (Nat.le_of_ble_eq_true rfl) ⟨Nat.le_of_ble_eq_true rfl, Nat.le_of_ble_eq_true rfl⟩ rfl (fun r60 m59 hJ => ?_)
          refine zq_icmp_eq (tgt := 651) d_Law_law_530 (by decide) (fun c => ?_) (fun c => ?_)
          · have hJ := hJ.1 c
            refine zr_less (L' := [some (.ref (zq_B + 0)), some (.ref 0), some (.ref 33), some (.int x3)]) ⟨rfl, ⟨rfl, ⟨rfl, ⟨rfl, trivial⟩⟩⟩⟩ ?_
            exact s_Law_law_L651  ih  hJ
          · have hJ := hJ.2 c
            refine zq_iconst (v := 0) d_Law_law_533 zk_i0 ?_
            exact zq_iret d_Law_law_534 rfl (zm_isB.nar (Or.inl rfl)) (Nat.le_of_ble_eq_true rfl) (Nat.le_of_ble_eq_true rfl) ⟨_, _, rfl, rfl, hJ⟩
        | 16, _, hj2, hj3 =>
          have hJ := hJ.2.2.2.2.2.2.2.2.2.2.2.2.2.2.2.2.1 hj2
          refine zq_swIn (tgt := 535) d_Law_law_42 (fun h => hsw (Or.inl h)) (fun h => hsw (Or.inr h)) (off := 493) (by rw [hj3]; rfl) (by decide) ?_
          refine zq_aload_n d_Law_law_535 rfl rfl ?_
          refine zq_aload_n d_Law_law_536 rfl rfl ?_
          refine zq_iload_n d_Law_law_537 rfl rfl ?_
          refine zq_iconst (v := 1) d_Law_law_538 zk_i1 ?_
          refine zq_iadd d_Law_law_539 ?_
          obtain ⟨hb, hJ⟩ := hJ
          refine zq_sload (i := 0) (x := (Ls, xs)) d_Law_law_540 rfl hb ?_
          refine zr_cvI (q := 0) (as := [.int (xs (Int32.toNatClampNeg (x3 + 1)))]) (st := []) d_Law_law_541 cc_Law_94 cv_Table_points zs_Table (s_Table_points  hJ) rfl ⟨Nat.le_of_ble_eq_true rfl, Nat.le_of_ble_eq_true rfl⟩ (Nat.le_of_ble_eq_true rfl) ⟨Nat.le_of_ble_eq_true rfl, Nat.le_of_ble_eq_true rfl⟩ rfl (fun r62 m61 hJ => ?_)
          refine zq_aload_n d_Law_law_544 rfl rfl ?_
          refine zq_aload_n d_Law_law_545 rfl rfl ?_
          refine zq_iload_n d_Law_law_546 rfl rfl ?_
          refine zq_iconst (v := 1) d_Law_law_547 zk_i1 ?_
          refine zq_iadd d_Law_law_548 ?_
          obtain ⟨hb, hJ⟩ := hJ
          refine zq_sload (i := 0) (x := (Ls, xs)) d_Law_law_549 rfl hb ?_
          refine zr_cvI (q := 33) (as := [.int (xs (Int32.toNatClampNeg (x3 + 1)))]) (st := [.int r62]) d_Law_law_550 cc_Law_97 cv_Model_points zs_Model (s_Model_points  hJ) rfl ⟨Nat.le_of_ble_eq_true rfl, Nat.le_of_ble_eq_true rfl⟩ (Nat.le_of_ble_eq_true rfl) ⟨Nat.le_of_ble_eq_true rfl, Nat.le_of_ble_eq_true rfl⟩ rfl (fun r64 m63 hJ => ?_)
          refine zq_icmp_eq (tgt := 651) d_Law_law_553 (by decide) (fun c => ?_) (fun c => ?_)
          · have hJ := hJ.1 c
            refine zr_less (L' := [some (.ref (zq_B + 0)), some (.ref 0), some (.ref 33), some (.int x3)]) ⟨rfl, ⟨rfl, ⟨rfl, ⟨rfl, trivial⟩⟩⟩⟩ ?_
            exact s_Law_law_L651  ih  hJ
          · have hJ := hJ.2 c
            refine zq_iconst (v := 0) d_Law_law_556 zk_i0 ?_
            exact zq_iret d_Law_law_557 rfl (zm_isB.nar (Or.inl rfl)) (Nat.le_of_ble_eq_true rfl) (Nat.le_of_ble_eq_true rfl) ⟨_, _, rfl, rfl, hJ⟩
        | 17, _, hj2, hj3 =>
          have hJ := hJ.2.2.2.2.2.2.2.2.2.2.2.2.2.2.2.2.2.1 hj2
          refine zq_swIn (tgt := 558) d_Law_law_42 (fun h => hsw (Or.inl h)) (fun h => hsw (Or.inr h)) (off := 516) (by rw [hj3]; rfl) (by decide) ?_
          refine zq_aload_n d_Law_law_558 rfl rfl ?_
          refine zq_aload_n d_Law_law_559 rfl rfl ?_
          refine zq_iload_n d_Law_law_560 rfl rfl ?_
          refine zq_iconst (v := 1) d_Law_law_561 zk_i1 ?_
          refine zq_iadd d_Law_law_562 ?_
          obtain ⟨hb, hJ⟩ := hJ
          refine zq_sload (i := 0) (x := (Ls, xs)) d_Law_law_563 rfl hb ?_
          refine zr_cvI (q := 0) (as := [.int (xs (Int32.toNatClampNeg (x3 + 1)))]) (st := []) d_Law_law_564 cc_Law_98 cv_Table_table zs_Table (s_Table_table  hJ) rfl ⟨Nat.le_of_ble_eq_true rfl, Nat.le_of_ble_eq_true rfl⟩ (Nat.le_of_ble_eq_true rfl) ⟨Nat.le_of_ble_eq_true rfl, Nat.le_of_ble_eq_true rfl⟩ rfl (fun r66 m65 hJ => ?_)
          refine zq_aload_n d_Law_law_567 rfl rfl ?_
          refine zq_aload_n d_Law_law_568 rfl rfl ?_
          refine zq_iload_n d_Law_law_569 rfl rfl ?_
          refine zq_iconst (v := 1) d_Law_law_570 zk_i1 ?_
          refine zq_iadd d_Law_law_571 ?_
          obtain ⟨hb, hJ⟩ := hJ
          refine zq_sload (i := 0) (x := (Ls, xs)) d_Law_law_572 rfl hb ?_
          refine zr_cvI (q := 33) (as := [.int (xs (Int32.toNatClampNeg (x3 + 1)))]) (st := [.int r66]) d_Law_law_573 cc_Law_101 cv_Model_table zs_Model (s_Model_table  hJ) rfl ⟨Nat.le_of_ble_eq_true rfl, Nat.le_of_ble_eq_true rfl⟩ (Nat.le_of_ble_eq_true rfl) ⟨Nat.le_of_ble_eq_true rfl, Nat.le_of_ble_eq_true rfl⟩ rfl (fun r68 m67 hJ => ?_)
          refine zq_icmp_eq (tgt := 651) d_Law_law_576 (by decide) (fun c => ?_) (fun c => ?_)
          · have hJ := hJ.1 c
            refine zr_less (L' := [some (.ref (zq_B + 0)), some (.ref 0), some (.ref 33), some (.int x3)]) ⟨rfl, ⟨rfl, ⟨rfl, ⟨rfl, trivial⟩⟩⟩⟩ ?_
            exact s_Law_law_L651  ih  hJ
          · have hJ := hJ.2 c
            refine zq_iconst (v := 0) d_Law_law_579 zk_i0 ?_
            exact zq_iret d_Law_law_580 rfl (zm_isB.nar (Or.inl rfl)) (Nat.le_of_ble_eq_true rfl) (Nat.le_of_ble_eq_true rfl) ⟨_, _, rfl, rfl, hJ⟩
        | 18, _, hj2, hj3 =>
          have hJ := hJ.2.2.2.2.2.2.2.2.2.2.2.2.2.2.2.2.2.2.1 hj2
          refine zq_swIn (tgt := 581) d_Law_law_42 (fun h => hsw (Or.inl h)) (fun h => hsw (Or.inr h)) (off := 539) (by rw [hj3]; rfl) (by decide) ?_
          refine zq_aload_n d_Law_law_581 rfl rfl ?_
          refine zq_aload_n d_Law_law_582 rfl rfl ?_
          refine zq_iload_n d_Law_law_583 rfl rfl ?_
          refine zq_iconst (v := 1) d_Law_law_584 zk_i1 ?_
          refine zq_iadd d_Law_law_585 ?_
          obtain ⟨hb, hJ⟩ := hJ
          refine zq_sload (i := 0) (x := (Ls, xs)) d_Law_law_586 rfl hb ?_
          refine zq_aload_n d_Law_law_587 rfl rfl ?_
          refine zq_iload_n d_Law_law_588 rfl rfl ?_
          refine zq_iconst (v := 2) d_Law_law_589 zk_i2 ?_
          refine zq_iadd d_Law_law_590 ?_
          obtain ⟨hb, hJ⟩ := hJ
          refine zq_sload (i := 0) (x := (Ls, xs)) d_Law_law_591 rfl hb ?_
          refine zr_cvI (q := 0) (as := [.int (xs (Int32.toNatClampNeg (x3 + 1))), .int (xs (Int32.toNatClampNeg (x3 + 2)))]) (st := []) d_Law_law_592 cc_Law_102 cv_Table_worth zs_Table (s_Table_worth  hJ) rfl ⟨Nat.le_of_ble_eq_true rfl, Nat.le_of_ble_eq_true rfl⟩ (Nat.le_of_ble_eq_true rfl) ⟨Nat.le_of_ble_eq_true rfl, Nat.le_of_ble_eq_true rfl⟩ rfl (fun r70 m69 hJ => ?_)
          refine zq_aload_n d_Law_law_595 rfl rfl ?_
          refine zq_aload_n d_Law_law_596 rfl rfl ?_
          refine zq_iload_n d_Law_law_597 rfl rfl ?_
          refine zq_iconst (v := 1) d_Law_law_598 zk_i1 ?_
          refine zq_iadd d_Law_law_599 ?_
          obtain ⟨hb, hJ⟩ := hJ
          refine zq_sload (i := 0) (x := (Ls, xs)) d_Law_law_600 rfl hb ?_
          refine zq_aload_n d_Law_law_601 rfl rfl ?_
          refine zq_iload_n d_Law_law_602 rfl rfl ?_
          refine zq_iconst (v := 2) d_Law_law_603 zk_i2 ?_
          refine zq_iadd d_Law_law_604 ?_
          obtain ⟨hb, hJ⟩ := hJ
          refine zq_sload (i := 0) (x := (Ls, xs)) d_Law_law_605 rfl hb ?_
          refine zr_cvI (q := 33) (as := [.int (xs (Int32.toNatClampNeg (x3 + 1))), .int (xs (Int32.toNatClampNeg (x3 + 2)))]) (st := [.int r70]) d_Law_law_606 cc_Law_105 cv_Model_worth zs_Model (s_Model_worth  hJ) rfl ⟨Nat.le_of_ble_eq_true rfl, Nat.le_of_ble_eq_true rfl⟩ (Nat.le_of_ble_eq_true rfl) ⟨Nat.le_of_ble_eq_true rfl, Nat.le_of_ble_eq_true rfl⟩ rfl (fun r72 m71 hJ => ?_)
          refine zq_icmp_eq (tgt := 651) d_Law_law_609 (by decide) (fun c => ?_) (fun c => ?_)
          · have hJ := hJ.1 c
            refine zr_less (L' := [some (.ref (zq_B + 0)), some (.ref 0), some (.ref 33), some (.int x3)]) ⟨rfl, ⟨rfl, ⟨rfl, ⟨rfl, trivial⟩⟩⟩⟩ ?_
            exact s_Law_law_L651  ih  hJ
          · have hJ := hJ.2 c
            refine zq_iconst (v := 0) d_Law_law_612 zk_i0 ?_
            exact zq_iret d_Law_law_613 rfl (zm_isB.nar (Or.inl rfl)) (Nat.le_of_ble_eq_true rfl) (Nat.le_of_ble_eq_true rfl) ⟨_, _, rfl, rfl, hJ⟩
        | 19, _, hj2, hj3 =>
          have hJ := hJ.2.2.2.2.2.2.2.2.2.2.2.2.2.2.2.2.2.2.2.1 hj2
          refine zq_swIn (tgt := 614) d_Law_law_42 (fun h => hsw (Or.inl h)) (fun h => hsw (Or.inr h)) (off := 572) (by rw [hj3]; rfl) (by decide) ?_
          refine zq_aload_n d_Law_law_614 rfl rfl ?_
          refine zq_aload_n d_Law_law_615 rfl rfl ?_
          refine zq_iload_n d_Law_law_616 rfl rfl ?_
          refine zq_iconst (v := 1) d_Law_law_617 zk_i1 ?_
          refine zq_iadd d_Law_law_618 ?_
          obtain ⟨hb, hJ⟩ := hJ
          refine zq_sload (i := 0) (x := (Ls, xs)) d_Law_law_619 rfl hb ?_
          refine zr_cvL (q := 0) (as := [.int (xs (Int32.toNatClampNeg (x3 + 1)))]) (st := []) d_Law_law_620 cc_Law_106 cv_Table_yaku zs_Table (s_Table_yaku  hJ) rfl ⟨Nat.le_of_ble_eq_true rfl, Nat.le_of_ble_eq_true rfl⟩ (Nat.le_of_ble_eq_true rfl) ⟨Nat.le_of_ble_eq_true rfl, Nat.le_of_ble_eq_true rfl⟩ rfl (fun r74 m73 hJ => ?_)
          refine zq_aload_n d_Law_law_623 rfl rfl ?_
          refine zq_aload_n d_Law_law_624 rfl rfl ?_
          refine zq_iload_n d_Law_law_625 rfl rfl ?_
          refine zq_iconst (v := 1) d_Law_law_626 zk_i1 ?_
          refine zq_iadd d_Law_law_627 ?_
          obtain ⟨hb, hJ⟩ := hJ
          refine zq_sload (i := 0) (x := (Ls, xs)) d_Law_law_628 rfl hb ?_
          refine zr_cvL (q := 33) (as := [.int (xs (Int32.toNatClampNeg (x3 + 1)))]) (st := [.long r74]) d_Law_law_629 cc_Law_109 cv_Model_yaku zs_Model (s_Model_yaku  hJ) rfl ⟨Nat.le_of_ble_eq_true rfl, Nat.le_of_ble_eq_true rfl⟩ (Nat.le_of_ble_eq_true rfl) ⟨Nat.le_of_ble_eq_true rfl, Nat.le_of_ble_eq_true rfl⟩ rfl (fun r76 m75 hJ => ?_)
          refine zq_lcmp d_Law_law_632 ?_
          refine zq_if_eq (tgt := 651) d_Law_law_633 (by decide) (fun c => ?_) (fun c => ?_)
          · have hJ := hJ.1 c
            refine zr_less (L' := [some (.ref (zq_B + 0)), some (.ref 0), some (.ref 33), some (.int x3)]) ⟨rfl, ⟨rfl, ⟨rfl, ⟨rfl, trivial⟩⟩⟩⟩ ?_
            exact s_Law_law_L651  ih  hJ
          · have hJ := hJ.2 c
            refine zq_iconst (v := 0) d_Law_law_636 zk_i0 ?_
            exact zq_iret d_Law_law_637 rfl (zm_isB.nar (Or.inl rfl)) (Nat.le_of_ble_eq_true rfl) (Nat.le_of_ble_eq_true rfl) ⟨_, _, rfl, rfl, hJ⟩
        | 20, _, hj2, hj3 =>
          have hJ := hJ.2.2.2.2.2.2.2.2.2.2.2.2.2.2.2.2.2.2.2.2 hj2
          refine zq_swIn (tgt := 638) d_Law_law_42 (fun h => hsw (Or.inl h)) (fun h => hsw (Or.inr h)) (off := 596) (by rw [hj3]; rfl) (by decide) ?_
          refine zq_aload_n d_Law_law_638 rfl rfl ?_
          refine zr_cvI (q := 0) (as := []) (st := []) d_Law_law_639 cc_Law_110 cv_Table_state zs_Table (s_Table_state  hJ) rfl ⟨Nat.le_of_ble_eq_true rfl, Nat.le_of_ble_eq_true rfl⟩ (Nat.le_of_ble_eq_true rfl) ⟨Nat.le_of_ble_eq_true rfl, Nat.le_of_ble_eq_true rfl⟩ rfl (fun r78 m77 hJ => ?_)
          refine zq_aload_n d_Law_law_642 rfl rfl ?_
          refine zr_cvI (q := 33) (as := []) (st := [.int r78]) d_Law_law_643 cc_Law_113 cv_Model_state zs_Model (s_Model_state  hJ) rfl ⟨Nat.le_of_ble_eq_true rfl, Nat.le_of_ble_eq_true rfl⟩ (Nat.le_of_ble_eq_true rfl) ⟨Nat.le_of_ble_eq_true rfl, Nat.le_of_ble_eq_true rfl⟩ rfl (fun r80 m79 hJ => ?_)
          refine zq_icmp_eq (tgt := 651) d_Law_law_646 (by decide) (fun c => ?_) (fun c => ?_)
          · have hJ := hJ.1 c
            refine zr_less (L' := [some (.ref (zq_B + 0)), some (.ref 0), some (.ref 33), some (.int x3)]) ⟨rfl, ⟨rfl, ⟨rfl, ⟨rfl, trivial⟩⟩⟩⟩ ?_
            exact s_Law_law_L651  ih  hJ
          · have hJ := hJ.2 c
            refine zq_iconst (v := 0) d_Law_law_649 zk_i0 ?_
            exact zq_iret d_Law_law_650 rfl (zm_isB.nar (Or.inl rfl)) (Nat.le_of_ble_eq_true rfl) (Nat.le_of_ble_eq_true rfl) ⟨_, _, rfl, rfl, hJ⟩
        | jsw + 21, hj1, _, _ => exact absurd hj1 (by omega)
