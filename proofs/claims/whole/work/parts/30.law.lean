abbrev rm_L_law : Room := room_1
theorem d_L_law_33 : decode cL_law 33 = .ok (.iload 4, 2) := by decide +kernel
theorem d_L_law_35 : decode cL_law 35 = .ok (.aload_n 0, 1) := by decide +kernel
theorem d_L_law_36 : decode cL_law 36 = .ok (.arraylength, 1) := by decide +kernel
theorem d_L_law_37 : decode cL_law 37 = .ok (.iconst 5, 1) := by decide +kernel
theorem d_L_law_38 : decode cL_law 38 = .ok (.isub, 1) := by decide +kernel
theorem d_L_law_39 : decode cL_law 39 = .ok (.if_icmp .gt 1085, 3) := by decide +kernel
theorem d_L_law_42 : decode cL_law 42 = .ok (.aload_n 0, 1) := by decide +kernel
theorem d_L_law_43 : decode cL_law 43 = .ok (.iload 4, 2) := by decide +kernel
theorem d_L_law_45 : decode cL_law 45 = .ok (.iaload, 1) := by decide +kernel
theorem d_L_law_46 : decode cL_law 46 = .ok (.bipush 15, 2) := by decide +kernel
theorem d_L_law_48 : decode cL_law 48 = .ok (.iand, 1) := by decide +kernel
theorem d_L_law_49 : decode cL_law 49 = .ok (.tableswitch 1069 0 13 #[71, 115, 234, 314, 370, 450, 518, 614, 710, 785, 852, 944, 957, 1013], 71) := by decide +kernel
theorem d_L_law_120 : decode cL_law 120 = .ok (.aload_n 1, 1) := by decide +kernel
theorem d_L_law_121 : decode cL_law 121 = .ok (.aload_n 3, 1) := by decide +kernel
theorem d_L_law_122 : decode cL_law 122 = .ok (.invokestatic 77, 3) := by decide +kernel
theorem d_L_law_125 : decode cL_law 125 = .ok (.istore 5, 2) := by decide +kernel
theorem d_L_law_127 : decode cL_law 127 = .ok (.aload_n 2, 1) := by decide +kernel
theorem d_L_law_128 : decode cL_law 128 = .ok (.invokevirtual 80, 3) := by decide +kernel
theorem d_L_law_131 : decode cL_law 131 = .ok (.istore 6, 2) := by decide +kernel
theorem d_L_law_133 : decode cL_law 133 = .ok (.aload_n 2, 1) := by decide +kernel
theorem d_L_law_134 : decode cL_law 134 = .ok (.invokevirtual 81, 3) := by decide +kernel
theorem d_L_law_137 : decode cL_law 137 = .ok (.iload 5, 2) := by decide +kernel
theorem d_L_law_139 : decode cL_law 139 = .ok (.if_icmp .eq 5, 3) := by decide +kernel
theorem d_L_law_142 : decode cL_law 142 = .ok (.iconst 0, 1) := by decide +kernel
theorem d_L_law_143 : decode cL_law 143 = .ok (.ireturn, 1) := by decide +kernel
theorem d_L_law_144 : decode cL_law 144 = .ok (.iload 5, 2) := by decide +kernel
theorem d_L_law_146 : decode cL_law 146 = .ok (.ifCond .ne 15, 3) := by decide +kernel
theorem d_L_law_149 : decode cL_law 149 = .ok (.aload_n 3, 1) := by decide +kernel
theorem d_L_law_150 : decode cL_law 150 = .ok (.iconst 0, 1) := by decide +kernel
theorem d_L_law_151 : decode cL_law 151 = .ok (.laload, 1) := by decide +kernel
theorem d_L_law_152 : decode cL_law 152 = .ok (.iload 6, 2) := by decide +kernel
theorem d_L_law_154 : decode cL_law 154 = .ok (.i2l, 1) := by decide +kernel
theorem d_L_law_155 : decode cL_law 155 = .ok (.lcmp, 1) := by decide +kernel
theorem d_L_law_156 : decode cL_law 156 = .ok (.ifCond .eq 5, 3) := by decide +kernel
theorem d_L_law_159 : decode cL_law 159 = .ok (.iconst 0, 1) := by decide +kernel
theorem d_L_law_160 : decode cL_law 160 = .ok (.ireturn, 1) := by decide +kernel
theorem d_L_law_161 : decode cL_law 161 = .ok (.goto 957, 3) := by decide +kernel
theorem d_L_law_164 : decode cL_law 164 = .ok (.aload_n 1, 1) := by decide +kernel
theorem d_L_law_165 : decode cL_law 165 = .ok (.aload_n 0, 1) := by decide +kernel
theorem d_L_law_166 : decode cL_law 166 = .ok (.iload 4, 2) := by decide +kernel
theorem d_L_law_168 : decode cL_law 168 = .ok (.iconst 1, 1) := by decide +kernel
theorem d_L_law_169 : decode cL_law 169 = .ok (.iadd, 1) := by decide +kernel
theorem d_L_law_170 : decode cL_law 170 = .ok (.iaload, 1) := by decide +kernel
theorem d_L_law_171 : decode cL_law 171 = .ok (.aload_n 0, 1) := by decide +kernel
theorem d_L_law_172 : decode cL_law 172 = .ok (.iload 4, 2) := by decide +kernel
theorem d_L_law_174 : decode cL_law 174 = .ok (.iconst 2, 1) := by decide +kernel
theorem d_L_law_175 : decode cL_law 175 = .ok (.iadd, 1) := by decide +kernel
theorem d_L_law_176 : decode cL_law 176 = .ok (.iaload, 1) := by decide +kernel
theorem d_L_law_177 : decode cL_law 177 = .ok (.aload_n 0, 1) := by decide +kernel
theorem d_L_law_178 : decode cL_law 178 = .ok (.iload 4, 2) := by decide +kernel
theorem d_L_law_180 : decode cL_law 180 = .ok (.iconst 3, 1) := by decide +kernel
theorem d_L_law_181 : decode cL_law 181 = .ok (.iadd, 1) := by decide +kernel
theorem d_L_law_182 : decode cL_law 182 = .ok (.iaload, 1) := by decide +kernel
theorem d_L_law_183 : decode cL_law 183 = .ok (.i2l, 1) := by decide +kernel
theorem d_L_law_184 : decode cL_law 184 = .ok (.bipush 32, 2) := by decide +kernel
theorem d_L_law_186 : decode cL_law 186 = .ok (.lshl, 1) := by decide +kernel
theorem d_L_law_187 : decode cL_law 187 = .ok (.aload_n 0, 1) := by decide +kernel
theorem d_L_law_188 : decode cL_law 188 = .ok (.iload 4, 2) := by decide +kernel
theorem d_L_law_190 : decode cL_law 190 = .ok (.iconst 4, 1) := by decide +kernel
theorem d_L_law_191 : decode cL_law 191 = .ok (.iadd, 1) := by decide +kernel
theorem d_L_law_192 : decode cL_law 192 = .ok (.iaload, 1) := by decide +kernel
theorem d_L_law_193 : decode cL_law 193 = .ok (.i2l, 1) := by decide +kernel
theorem d_L_law_194 : decode cL_law 194 = .ok (.ldc2_w 84, 3) := by decide +kernel
theorem d_L_law_197 : decode cL_law 197 = .ok (.land, 1) := by decide +kernel
theorem d_L_law_198 : decode cL_law 198 = .ok (.lor, 1) := by decide +kernel
theorem d_L_law_199 : decode cL_law 199 = .ok (.aload_n 3, 1) := by decide +kernel
theorem d_L_law_200 : decode cL_law 200 = .ok (.invokestatic 86, 3) := by decide +kernel
theorem d_L_law_203 : decode cL_law 203 = .ok (.istore 5, 2) := by decide +kernel
theorem d_L_law_205 : decode cL_law 205 = .ok (.aload_n 2, 1) := by decide +kernel
theorem d_L_law_206 : decode cL_law 206 = .ok (.aload_n 0, 1) := by decide +kernel
theorem d_L_law_207 : decode cL_law 207 = .ok (.iload 4, 2) := by decide +kernel
theorem d_L_law_209 : decode cL_law 209 = .ok (.iconst 1, 1) := by decide +kernel
theorem d_L_law_210 : decode cL_law 210 = .ok (.iadd, 1) := by decide +kernel
theorem d_L_law_211 : decode cL_law 211 = .ok (.iaload, 1) := by decide +kernel
theorem d_L_law_212 : decode cL_law 212 = .ok (.aload_n 0, 1) := by decide +kernel
theorem d_L_law_213 : decode cL_law 213 = .ok (.iload 4, 2) := by decide +kernel
theorem d_L_law_215 : decode cL_law 215 = .ok (.iconst 2, 1) := by decide +kernel
theorem d_L_law_216 : decode cL_law 216 = .ok (.iadd, 1) := by decide +kernel
theorem d_L_law_217 : decode cL_law 217 = .ok (.iaload, 1) := by decide +kernel
theorem d_L_law_218 : decode cL_law 218 = .ok (.aload_n 0, 1) := by decide +kernel
theorem d_L_law_219 : decode cL_law 219 = .ok (.iload 4, 2) := by decide +kernel
theorem d_L_law_221 : decode cL_law 221 = .ok (.iconst 3, 1) := by decide +kernel
theorem d_L_law_222 : decode cL_law 222 = .ok (.iadd, 1) := by decide +kernel
theorem d_L_law_223 : decode cL_law 223 = .ok (.iaload, 1) := by decide +kernel
theorem d_L_law_224 : decode cL_law 224 = .ok (.i2l, 1) := by decide +kernel
theorem d_L_law_225 : decode cL_law 225 = .ok (.bipush 32, 2) := by decide +kernel
theorem d_L_law_227 : decode cL_law 227 = .ok (.lshl, 1) := by decide +kernel
theorem d_L_law_228 : decode cL_law 228 = .ok (.aload_n 0, 1) := by decide +kernel
theorem d_L_law_229 : decode cL_law 229 = .ok (.iload 4, 2) := by decide +kernel
theorem d_L_law_231 : decode cL_law 231 = .ok (.iconst 4, 1) := by decide +kernel
theorem d_L_law_232 : decode cL_law 232 = .ok (.iadd, 1) := by decide +kernel
theorem d_L_law_233 : decode cL_law 233 = .ok (.iaload, 1) := by decide +kernel
theorem d_L_law_234 : decode cL_law 234 = .ok (.i2l, 1) := by decide +kernel
theorem d_L_law_235 : decode cL_law 235 = .ok (.ldc2_w 84, 3) := by decide +kernel
theorem d_L_law_238 : decode cL_law 238 = .ok (.land, 1) := by decide +kernel
theorem d_L_law_239 : decode cL_law 239 = .ok (.lor, 1) := by decide +kernel
theorem d_L_law_240 : decode cL_law 240 = .ok (.invokevirtual 89, 3) := by decide +kernel
theorem d_L_law_243 : decode cL_law 243 = .ok (.istore 6, 2) := by decide +kernel
theorem d_L_law_245 : decode cL_law 245 = .ok (.aload_n 2, 1) := by decide +kernel
theorem d_L_law_246 : decode cL_law 246 = .ok (.invokevirtual 81, 3) := by decide +kernel
theorem d_L_law_249 : decode cL_law 249 = .ok (.iload 5, 2) := by decide +kernel
theorem d_L_law_251 : decode cL_law 251 = .ok (.if_icmp .eq 5, 3) := by decide +kernel
theorem d_L_law_254 : decode cL_law 254 = .ok (.iconst 0, 1) := by decide +kernel
theorem d_L_law_255 : decode cL_law 255 = .ok (.ireturn, 1) := by decide +kernel
theorem d_L_law_256 : decode cL_law 256 = .ok (.iload 5, 2) := by decide +kernel
theorem d_L_law_258 : decode cL_law 258 = .ok (.ifCond .ne 22, 3) := by decide +kernel
theorem d_L_law_261 : decode cL_law 261 = .ok (.aload_n 3, 1) := by decide +kernel
theorem d_L_law_262 : decode cL_law 262 = .ok (.iconst 0, 1) := by decide +kernel
theorem d_L_law_263 : decode cL_law 263 = .ok (.laload, 1) := by decide +kernel
theorem d_L_law_264 : decode cL_law 264 = .ok (.iload 6, 2) := by decide +kernel
theorem d_L_law_266 : decode cL_law 266 = .ok (.ifCond .eq 7, 3) := by decide +kernel
theorem d_L_law_269 : decode cL_law 269 = .ok (.lconst 1, 1) := by decide +kernel
theorem d_L_law_270 : decode cL_law 270 = .ok (.goto 4, 3) := by decide +kernel
theorem d_L_law_273 : decode cL_law 273 = .ok (.lconst 0, 1) := by decide +kernel
theorem d_L_law_274 : decode cL_law 274 = .ok (.lcmp, 1) := by decide +kernel
theorem d_L_law_275 : decode cL_law 275 = .ok (.ifCond .eq 5, 3) := by decide +kernel
theorem d_L_law_278 : decode cL_law 278 = .ok (.iconst 0, 1) := by decide +kernel
theorem d_L_law_279 : decode cL_law 279 = .ok (.ireturn, 1) := by decide +kernel
theorem d_L_law_280 : decode cL_law 280 = .ok (.goto 838, 3) := by decide +kernel
theorem d_L_law_283 : decode cL_law 283 = .ok (.aload_n 1, 1) := by decide +kernel
theorem d_L_law_284 : decode cL_law 284 = .ok (.aload_n 0, 1) := by decide +kernel
theorem d_L_law_285 : decode cL_law 285 = .ok (.iload 4, 2) := by decide +kernel
theorem d_L_law_287 : decode cL_law 287 = .ok (.iconst 1, 1) := by decide +kernel
theorem d_L_law_288 : decode cL_law 288 = .ok (.iadd, 1) := by decide +kernel
theorem d_L_law_289 : decode cL_law 289 = .ok (.iaload, 1) := by decide +kernel
theorem d_L_law_290 : decode cL_law 290 = .ok (.aload_n 0, 1) := by decide +kernel
theorem d_L_law_291 : decode cL_law 291 = .ok (.iload 4, 2) := by decide +kernel
theorem d_L_law_293 : decode cL_law 293 = .ok (.iconst 2, 1) := by decide +kernel
theorem d_L_law_294 : decode cL_law 294 = .ok (.iadd, 1) := by decide +kernel
theorem d_L_law_295 : decode cL_law 295 = .ok (.iaload, 1) := by decide +kernel
theorem d_L_law_296 : decode cL_law 296 = .ok (.aload_n 0, 1) := by decide +kernel
theorem d_L_law_297 : decode cL_law 297 = .ok (.iload 4, 2) := by decide +kernel
theorem d_L_law_299 : decode cL_law 299 = .ok (.iconst 3, 1) := by decide +kernel
theorem d_L_law_300 : decode cL_law 300 = .ok (.iadd, 1) := by decide +kernel
theorem d_L_law_301 : decode cL_law 301 = .ok (.iaload, 1) := by decide +kernel
theorem d_L_law_302 : decode cL_law 302 = .ok (.aload_n 3, 1) := by decide +kernel
theorem d_L_law_303 : decode cL_law 303 = .ok (.invokestatic 90, 3) := by decide +kernel
theorem d_L_law_306 : decode cL_law 306 = .ok (.istore 5, 2) := by decide +kernel
theorem d_L_law_308 : decode cL_law 308 = .ok (.aload_n 2, 1) := by decide +kernel
theorem d_L_law_309 : decode cL_law 309 = .ok (.aload_n 0, 1) := by decide +kernel
theorem d_L_law_310 : decode cL_law 310 = .ok (.iload 4, 2) := by decide +kernel
theorem d_L_law_312 : decode cL_law 312 = .ok (.iconst 1, 1) := by decide +kernel
theorem d_L_law_313 : decode cL_law 313 = .ok (.iadd, 1) := by decide +kernel
theorem d_L_law_314 : decode cL_law 314 = .ok (.iaload, 1) := by decide +kernel
theorem d_L_law_315 : decode cL_law 315 = .ok (.aload_n 0, 1) := by decide +kernel
theorem d_L_law_316 : decode cL_law 316 = .ok (.iload 4, 2) := by decide +kernel
theorem d_L_law_318 : decode cL_law 318 = .ok (.iconst 2, 1) := by decide +kernel
theorem d_L_law_319 : decode cL_law 319 = .ok (.iadd, 1) := by decide +kernel
theorem d_L_law_320 : decode cL_law 320 = .ok (.iaload, 1) := by decide +kernel
theorem d_L_law_321 : decode cL_law 321 = .ok (.aload_n 0, 1) := by decide +kernel
theorem d_L_law_322 : decode cL_law 322 = .ok (.iload 4, 2) := by decide +kernel
theorem d_L_law_324 : decode cL_law 324 = .ok (.iconst 3, 1) := by decide +kernel
theorem d_L_law_325 : decode cL_law 325 = .ok (.iadd, 1) := by decide +kernel
theorem d_L_law_326 : decode cL_law 326 = .ok (.iaload, 1) := by decide +kernel
theorem d_L_law_327 : decode cL_law 327 = .ok (.invokevirtual 93, 3) := by decide +kernel
theorem d_L_law_330 : decode cL_law 330 = .ok (.istore 6, 2) := by decide +kernel
theorem d_L_law_332 : decode cL_law 332 = .ok (.aload_n 2, 1) := by decide +kernel
theorem d_L_law_333 : decode cL_law 333 = .ok (.invokevirtual 81, 3) := by decide +kernel
theorem d_L_law_336 : decode cL_law 336 = .ok (.iload 5, 2) := by decide +kernel
theorem d_L_law_338 : decode cL_law 338 = .ok (.if_icmp .eq 5, 3) := by decide +kernel
theorem d_L_law_341 : decode cL_law 341 = .ok (.iconst 0, 1) := by decide +kernel
theorem d_L_law_342 : decode cL_law 342 = .ok (.ireturn, 1) := by decide +kernel
theorem d_L_law_343 : decode cL_law 343 = .ok (.iload 5, 2) := by decide +kernel
theorem d_L_law_345 : decode cL_law 345 = .ok (.ifCond .ne 15, 3) := by decide +kernel
theorem d_L_law_348 : decode cL_law 348 = .ok (.aload_n 3, 1) := by decide +kernel
theorem d_L_law_349 : decode cL_law 349 = .ok (.iconst 0, 1) := by decide +kernel
theorem d_L_law_350 : decode cL_law 350 = .ok (.laload, 1) := by decide +kernel
theorem d_L_law_351 : decode cL_law 351 = .ok (.iload 6, 2) := by decide +kernel
theorem d_L_law_353 : decode cL_law 353 = .ok (.i2l, 1) := by decide +kernel
theorem d_L_law_354 : decode cL_law 354 = .ok (.lcmp, 1) := by decide +kernel
theorem d_L_law_355 : decode cL_law 355 = .ok (.ifCond .eq 5, 3) := by decide +kernel
theorem d_L_law_358 : decode cL_law 358 = .ok (.iconst 0, 1) := by decide +kernel
theorem d_L_law_359 : decode cL_law 359 = .ok (.ireturn, 1) := by decide +kernel
theorem d_L_law_360 : decode cL_law 360 = .ok (.goto 758, 3) := by decide +kernel
theorem d_L_law_363 : decode cL_law 363 = .ok (.aload_n 1, 1) := by decide +kernel
theorem d_L_law_364 : decode cL_law 364 = .ok (.aload_n 0, 1) := by decide +kernel
theorem d_L_law_365 : decode cL_law 365 = .ok (.iload 4, 2) := by decide +kernel
theorem d_L_law_367 : decode cL_law 367 = .ok (.iconst 1, 1) := by decide +kernel
theorem d_L_law_368 : decode cL_law 368 = .ok (.iadd, 1) := by decide +kernel
theorem d_L_law_369 : decode cL_law 369 = .ok (.iaload, 1) := by decide +kernel
theorem d_L_law_370 : decode cL_law 370 = .ok (.aload_n 3, 1) := by decide +kernel
theorem d_L_law_371 : decode cL_law 371 = .ok (.invokestatic 94, 3) := by decide +kernel
theorem d_L_law_374 : decode cL_law 374 = .ok (.istore 5, 2) := by decide +kernel
theorem d_L_law_376 : decode cL_law 376 = .ok (.aload_n 2, 1) := by decide +kernel
theorem d_L_law_377 : decode cL_law 377 = .ok (.aload_n 0, 1) := by decide +kernel
theorem d_L_law_378 : decode cL_law 378 = .ok (.iload 4, 2) := by decide +kernel
theorem d_L_law_380 : decode cL_law 380 = .ok (.iconst 1, 1) := by decide +kernel
theorem d_L_law_381 : decode cL_law 381 = .ok (.iadd, 1) := by decide +kernel
theorem d_L_law_382 : decode cL_law 382 = .ok (.iaload, 1) := by decide +kernel
theorem d_L_law_383 : decode cL_law 383 = .ok (.invokevirtual 97, 3) := by decide +kernel
theorem d_L_law_386 : decode cL_law 386 = .ok (.istore 6, 2) := by decide +kernel
theorem d_L_law_388 : decode cL_law 388 = .ok (.aload_n 2, 1) := by decide +kernel
theorem d_L_law_389 : decode cL_law 389 = .ok (.invokevirtual 81, 3) := by decide +kernel
theorem d_L_law_392 : decode cL_law 392 = .ok (.iload 5, 2) := by decide +kernel
theorem d_L_law_394 : decode cL_law 394 = .ok (.if_icmp .eq 5, 3) := by decide +kernel
theorem d_L_law_397 : decode cL_law 397 = .ok (.iconst 0, 1) := by decide +kernel
theorem d_L_law_398 : decode cL_law 398 = .ok (.ireturn, 1) := by decide +kernel
theorem d_L_law_399 : decode cL_law 399 = .ok (.iload 5, 2) := by decide +kernel
theorem d_L_law_401 : decode cL_law 401 = .ok (.ifCond .ne 15, 3) := by decide +kernel
theorem d_L_law_404 : decode cL_law 404 = .ok (.aload_n 3, 1) := by decide +kernel
theorem d_L_law_405 : decode cL_law 405 = .ok (.iconst 0, 1) := by decide +kernel
theorem d_L_law_406 : decode cL_law 406 = .ok (.laload, 1) := by decide +kernel
theorem d_L_law_407 : decode cL_law 407 = .ok (.iload 6, 2) := by decide +kernel
theorem d_L_law_409 : decode cL_law 409 = .ok (.i2l, 1) := by decide +kernel
theorem d_L_law_410 : decode cL_law 410 = .ok (.lcmp, 1) := by decide +kernel
theorem d_L_law_411 : decode cL_law 411 = .ok (.ifCond .eq 5, 3) := by decide +kernel
theorem d_L_law_414 : decode cL_law 414 = .ok (.iconst 0, 1) := by decide +kernel
theorem d_L_law_415 : decode cL_law 415 = .ok (.ireturn, 1) := by decide +kernel
theorem d_L_law_416 : decode cL_law 416 = .ok (.goto 702, 3) := by decide +kernel
theorem d_L_law_419 : decode cL_law 419 = .ok (.aload_n 1, 1) := by decide +kernel
theorem d_L_law_420 : decode cL_law 420 = .ok (.aload_n 0, 1) := by decide +kernel
theorem d_L_law_421 : decode cL_law 421 = .ok (.iload 4, 2) := by decide +kernel
theorem d_L_law_423 : decode cL_law 423 = .ok (.iconst 1, 1) := by decide +kernel
theorem d_L_law_424 : decode cL_law 424 = .ok (.iadd, 1) := by decide +kernel
theorem d_L_law_425 : decode cL_law 425 = .ok (.iaload, 1) := by decide +kernel
theorem d_L_law_426 : decode cL_law 426 = .ok (.aload_n 0, 1) := by decide +kernel
theorem d_L_law_427 : decode cL_law 427 = .ok (.iload 4, 2) := by decide +kernel
theorem d_L_law_429 : decode cL_law 429 = .ok (.iconst 2, 1) := by decide +kernel
theorem d_L_law_430 : decode cL_law 430 = .ok (.iadd, 1) := by decide +kernel
theorem d_L_law_431 : decode cL_law 431 = .ok (.iaload, 1) := by decide +kernel
theorem d_L_law_432 : decode cL_law 432 = .ok (.aload_n 0, 1) := by decide +kernel
theorem d_L_law_433 : decode cL_law 433 = .ok (.iload 4, 2) := by decide +kernel
theorem d_L_law_435 : decode cL_law 435 = .ok (.iconst 3, 1) := by decide +kernel
theorem d_L_law_436 : decode cL_law 436 = .ok (.iadd, 1) := by decide +kernel
theorem d_L_law_437 : decode cL_law 437 = .ok (.iaload, 1) := by decide +kernel
theorem d_L_law_438 : decode cL_law 438 = .ok (.aload_n 3, 1) := by decide +kernel
theorem d_L_law_439 : decode cL_law 439 = .ok (.invokestatic 98, 3) := by decide +kernel
theorem d_L_law_442 : decode cL_law 442 = .ok (.istore 5, 2) := by decide +kernel
theorem d_L_law_444 : decode cL_law 444 = .ok (.aload_n 2, 1) := by decide +kernel
theorem d_L_law_445 : decode cL_law 445 = .ok (.aload_n 0, 1) := by decide +kernel
theorem d_L_law_446 : decode cL_law 446 = .ok (.iload 4, 2) := by decide +kernel
theorem d_L_law_448 : decode cL_law 448 = .ok (.iconst 1, 1) := by decide +kernel
theorem d_L_law_449 : decode cL_law 449 = .ok (.iadd, 1) := by decide +kernel
theorem d_L_law_450 : decode cL_law 450 = .ok (.iaload, 1) := by decide +kernel
theorem d_L_law_451 : decode cL_law 451 = .ok (.aload_n 0, 1) := by decide +kernel
theorem d_L_law_452 : decode cL_law 452 = .ok (.iload 4, 2) := by decide +kernel
theorem d_L_law_454 : decode cL_law 454 = .ok (.iconst 2, 1) := by decide +kernel
theorem d_L_law_455 : decode cL_law 455 = .ok (.iadd, 1) := by decide +kernel
theorem d_L_law_456 : decode cL_law 456 = .ok (.iaload, 1) := by decide +kernel
theorem d_L_law_457 : decode cL_law 457 = .ok (.aload_n 0, 1) := by decide +kernel
theorem d_L_law_458 : decode cL_law 458 = .ok (.iload 4, 2) := by decide +kernel
theorem d_L_law_460 : decode cL_law 460 = .ok (.iconst 3, 1) := by decide +kernel
theorem d_L_law_461 : decode cL_law 461 = .ok (.iadd, 1) := by decide +kernel
theorem d_L_law_462 : decode cL_law 462 = .ok (.iaload, 1) := by decide +kernel
theorem d_L_law_463 : decode cL_law 463 = .ok (.invokevirtual 100, 3) := by decide +kernel
theorem d_L_law_466 : decode cL_law 466 = .ok (.istore 6, 2) := by decide +kernel
theorem d_L_law_468 : decode cL_law 468 = .ok (.aload_n 2, 1) := by decide +kernel
theorem d_L_law_469 : decode cL_law 469 = .ok (.invokevirtual 81, 3) := by decide +kernel
theorem d_L_law_472 : decode cL_law 472 = .ok (.iload 5, 2) := by decide +kernel
theorem d_L_law_474 : decode cL_law 474 = .ok (.if_icmp .eq 5, 3) := by decide +kernel
theorem d_L_law_477 : decode cL_law 477 = .ok (.iconst 0, 1) := by decide +kernel
theorem d_L_law_478 : decode cL_law 478 = .ok (.ireturn, 1) := by decide +kernel
theorem d_L_law_479 : decode cL_law 479 = .ok (.iload 5, 2) := by decide +kernel
theorem d_L_law_481 : decode cL_law 481 = .ok (.ifCond .ne 15, 3) := by decide +kernel
theorem d_L_law_484 : decode cL_law 484 = .ok (.aload_n 3, 1) := by decide +kernel
theorem d_L_law_485 : decode cL_law 485 = .ok (.iconst 0, 1) := by decide +kernel
theorem d_L_law_486 : decode cL_law 486 = .ok (.laload, 1) := by decide +kernel
theorem d_L_law_487 : decode cL_law 487 = .ok (.iload 6, 2) := by decide +kernel
theorem d_L_law_489 : decode cL_law 489 = .ok (.i2l, 1) := by decide +kernel
theorem d_L_law_490 : decode cL_law 490 = .ok (.lcmp, 1) := by decide +kernel
theorem d_L_law_491 : decode cL_law 491 = .ok (.ifCond .eq 5, 3) := by decide +kernel
theorem d_L_law_494 : decode cL_law 494 = .ok (.iconst 0, 1) := by decide +kernel
theorem d_L_law_495 : decode cL_law 495 = .ok (.ireturn, 1) := by decide +kernel
theorem d_L_law_496 : decode cL_law 496 = .ok (.goto 622, 3) := by decide +kernel
theorem d_L_law_499 : decode cL_law 499 = .ok (.aload_n 1, 1) := by decide +kernel
theorem d_L_law_500 : decode cL_law 500 = .ok (.aload_n 0, 1) := by decide +kernel
theorem d_L_law_501 : decode cL_law 501 = .ok (.iload 4, 2) := by decide +kernel
theorem d_L_law_503 : decode cL_law 503 = .ok (.iconst 1, 1) := by decide +kernel
theorem d_L_law_504 : decode cL_law 504 = .ok (.iadd, 1) := by decide +kernel
theorem d_L_law_505 : decode cL_law 505 = .ok (.iaload, 1) := by decide +kernel
theorem d_L_law_506 : decode cL_law 506 = .ok (.aload_n 0, 1) := by decide +kernel
theorem d_L_law_507 : decode cL_law 507 = .ok (.iload 4, 2) := by decide +kernel
theorem d_L_law_509 : decode cL_law 509 = .ok (.iconst 2, 1) := by decide +kernel
theorem d_L_law_510 : decode cL_law 510 = .ok (.iadd, 1) := by decide +kernel
theorem d_L_law_511 : decode cL_law 511 = .ok (.iaload, 1) := by decide +kernel
theorem d_L_law_512 : decode cL_law 512 = .ok (.aload_n 3, 1) := by decide +kernel
theorem d_L_law_513 : decode cL_law 513 = .ok (.invokestatic 101, 3) := by decide +kernel
theorem d_L_law_516 : decode cL_law 516 = .ok (.istore 5, 2) := by decide +kernel
theorem d_L_law_518 : decode cL_law 518 = .ok (.aload_n 2, 1) := by decide +kernel
theorem d_L_law_519 : decode cL_law 519 = .ok (.aload_n 0, 1) := by decide +kernel
theorem d_L_law_520 : decode cL_law 520 = .ok (.iload 4, 2) := by decide +kernel
theorem d_L_law_522 : decode cL_law 522 = .ok (.iconst 1, 1) := by decide +kernel
theorem d_L_law_523 : decode cL_law 523 = .ok (.iadd, 1) := by decide +kernel
theorem d_L_law_524 : decode cL_law 524 = .ok (.iaload, 1) := by decide +kernel
theorem d_L_law_525 : decode cL_law 525 = .ok (.aload_n 0, 1) := by decide +kernel
theorem d_L_law_526 : decode cL_law 526 = .ok (.iload 4, 2) := by decide +kernel
theorem d_L_law_528 : decode cL_law 528 = .ok (.iconst 2, 1) := by decide +kernel
theorem d_L_law_529 : decode cL_law 529 = .ok (.iadd, 1) := by decide +kernel
theorem d_L_law_530 : decode cL_law 530 = .ok (.iaload, 1) := by decide +kernel
theorem d_L_law_531 : decode cL_law 531 = .ok (.invokevirtual 104, 3) := by decide +kernel
theorem d_L_law_534 : decode cL_law 534 = .ok (.istore 6, 2) := by decide +kernel
theorem d_L_law_536 : decode cL_law 536 = .ok (.aload_n 2, 1) := by decide +kernel
theorem d_L_law_537 : decode cL_law 537 = .ok (.invokevirtual 81, 3) := by decide +kernel
theorem d_L_law_540 : decode cL_law 540 = .ok (.iload 5, 2) := by decide +kernel
theorem d_L_law_542 : decode cL_law 542 = .ok (.if_icmp .eq 5, 3) := by decide +kernel
theorem d_L_law_545 : decode cL_law 545 = .ok (.iconst 0, 1) := by decide +kernel
theorem d_L_law_546 : decode cL_law 546 = .ok (.ireturn, 1) := by decide +kernel
theorem d_L_law_547 : decode cL_law 547 = .ok (.iload 5, 2) := by decide +kernel
theorem d_L_law_549 : decode cL_law 549 = .ok (.ifCond .ne 15, 3) := by decide +kernel
theorem d_L_law_552 : decode cL_law 552 = .ok (.aload_n 3, 1) := by decide +kernel
theorem d_L_law_553 : decode cL_law 553 = .ok (.iconst 0, 1) := by decide +kernel
theorem d_L_law_554 : decode cL_law 554 = .ok (.laload, 1) := by decide +kernel
theorem d_L_law_555 : decode cL_law 555 = .ok (.iload 6, 2) := by decide +kernel
theorem d_L_law_557 : decode cL_law 557 = .ok (.i2l, 1) := by decide +kernel
theorem d_L_law_558 : decode cL_law 558 = .ok (.lcmp, 1) := by decide +kernel
theorem d_L_law_559 : decode cL_law 559 = .ok (.ifCond .eq 5, 3) := by decide +kernel
theorem d_L_law_562 : decode cL_law 562 = .ok (.iconst 0, 1) := by decide +kernel
theorem d_L_law_563 : decode cL_law 563 = .ok (.ireturn, 1) := by decide +kernel
theorem d_L_law_564 : decode cL_law 564 = .ok (.goto 554, 3) := by decide +kernel
theorem d_L_law_567 : decode cL_law 567 = .ok (.aload_n 1, 1) := by decide +kernel
theorem d_L_law_568 : decode cL_law 568 = .ok (.aload_n 0, 1) := by decide +kernel
theorem d_L_law_569 : decode cL_law 569 = .ok (.iload 4, 2) := by decide +kernel
theorem d_L_law_571 : decode cL_law 571 = .ok (.iconst 1, 1) := by decide +kernel
theorem d_L_law_572 : decode cL_law 572 = .ok (.iadd, 1) := by decide +kernel
theorem d_L_law_573 : decode cL_law 573 = .ok (.iaload, 1) := by decide +kernel
theorem d_L_law_574 : decode cL_law 574 = .ok (.aload_n 0, 1) := by decide +kernel
theorem d_L_law_575 : decode cL_law 575 = .ok (.iload 4, 2) := by decide +kernel
theorem d_L_law_577 : decode cL_law 577 = .ok (.iconst 2, 1) := by decide +kernel
theorem d_L_law_578 : decode cL_law 578 = .ok (.iadd, 1) := by decide +kernel
theorem d_L_law_579 : decode cL_law 579 = .ok (.iaload, 1) := by decide +kernel
theorem d_L_law_580 : decode cL_law 580 = .ok (.aload_n 0, 1) := by decide +kernel
theorem d_L_law_581 : decode cL_law 581 = .ok (.iload 4, 2) := by decide +kernel
theorem d_L_law_583 : decode cL_law 583 = .ok (.iconst 3, 1) := by decide +kernel
theorem d_L_law_584 : decode cL_law 584 = .ok (.iadd, 1) := by decide +kernel
theorem d_L_law_585 : decode cL_law 585 = .ok (.iaload, 1) := by decide +kernel
theorem d_L_law_586 : decode cL_law 586 = .ok (.ifCond .eq 7, 3) := by decide +kernel
theorem d_L_law_589 : decode cL_law 589 = .ok (.iconst 1, 1) := by decide +kernel
theorem d_L_law_590 : decode cL_law 590 = .ok (.goto 4, 3) := by decide +kernel
theorem d_L_law_593 : decode cL_law 593 = .ok (.iconst 0, 1) := by decide +kernel
theorem d_L_law_594 : decode cL_law 594 = .ok (.aload_n 3, 1) := by decide +kernel
theorem d_L_law_595 : decode cL_law 595 = .ok (.invokestatic 105, 3) := by decide +kernel
theorem d_L_law_598 : decode cL_law 598 = .ok (.istore 5, 2) := by decide +kernel
theorem d_L_law_600 : decode cL_law 600 = .ok (.aload_n 2, 1) := by decide +kernel
theorem d_L_law_601 : decode cL_law 601 = .ok (.aload_n 0, 1) := by decide +kernel
theorem d_L_law_602 : decode cL_law 602 = .ok (.iload 4, 2) := by decide +kernel
theorem d_L_law_604 : decode cL_law 604 = .ok (.iconst 1, 1) := by decide +kernel
theorem d_L_law_605 : decode cL_law 605 = .ok (.iadd, 1) := by decide +kernel
theorem d_L_law_606 : decode cL_law 606 = .ok (.iaload, 1) := by decide +kernel
theorem d_L_law_607 : decode cL_law 607 = .ok (.aload_n 0, 1) := by decide +kernel
theorem d_L_law_608 : decode cL_law 608 = .ok (.iload 4, 2) := by decide +kernel
theorem d_L_law_610 : decode cL_law 610 = .ok (.iconst 2, 1) := by decide +kernel
theorem d_L_law_611 : decode cL_law 611 = .ok (.iadd, 1) := by decide +kernel
theorem d_L_law_612 : decode cL_law 612 = .ok (.iaload, 1) := by decide +kernel
theorem d_L_law_613 : decode cL_law 613 = .ok (.aload_n 0, 1) := by decide +kernel
theorem d_L_law_614 : decode cL_law 614 = .ok (.iload 4, 2) := by decide +kernel
theorem d_L_law_616 : decode cL_law 616 = .ok (.iconst 3, 1) := by decide +kernel
theorem d_L_law_617 : decode cL_law 617 = .ok (.iadd, 1) := by decide +kernel
theorem d_L_law_618 : decode cL_law 618 = .ok (.iaload, 1) := by decide +kernel
theorem d_L_law_619 : decode cL_law 619 = .ok (.ifCond .eq 7, 3) := by decide +kernel
theorem d_L_law_622 : decode cL_law 622 = .ok (.iconst 1, 1) := by decide +kernel
theorem d_L_law_623 : decode cL_law 623 = .ok (.goto 4, 3) := by decide +kernel
theorem d_L_law_626 : decode cL_law 626 = .ok (.iconst 0, 1) := by decide +kernel
theorem d_L_law_627 : decode cL_law 627 = .ok (.invokevirtual 108, 3) := by decide +kernel
theorem d_L_law_630 : decode cL_law 630 = .ok (.istore 6, 2) := by decide +kernel
theorem d_L_law_632 : decode cL_law 632 = .ok (.aload_n 2, 1) := by decide +kernel
theorem d_L_law_633 : decode cL_law 633 = .ok (.invokevirtual 81, 3) := by decide +kernel
theorem d_L_law_636 : decode cL_law 636 = .ok (.iload 5, 2) := by decide +kernel
theorem d_L_law_638 : decode cL_law 638 = .ok (.if_icmp .eq 5, 3) := by decide +kernel
theorem d_L_law_641 : decode cL_law 641 = .ok (.iconst 0, 1) := by decide +kernel
theorem d_L_law_642 : decode cL_law 642 = .ok (.ireturn, 1) := by decide +kernel
theorem d_L_law_643 : decode cL_law 643 = .ok (.iload 5, 2) := by decide +kernel
theorem d_L_law_645 : decode cL_law 645 = .ok (.ifCond .ne 15, 3) := by decide +kernel
theorem d_L_law_648 : decode cL_law 648 = .ok (.aload_n 3, 1) := by decide +kernel
theorem d_L_law_649 : decode cL_law 649 = .ok (.iconst 0, 1) := by decide +kernel
theorem d_L_law_650 : decode cL_law 650 = .ok (.laload, 1) := by decide +kernel
theorem d_L_law_651 : decode cL_law 651 = .ok (.iload 6, 2) := by decide +kernel
theorem d_L_law_653 : decode cL_law 653 = .ok (.i2l, 1) := by decide +kernel
theorem d_L_law_654 : decode cL_law 654 = .ok (.lcmp, 1) := by decide +kernel
theorem d_L_law_655 : decode cL_law 655 = .ok (.ifCond .eq 5, 3) := by decide +kernel
theorem d_L_law_658 : decode cL_law 658 = .ok (.iconst 0, 1) := by decide +kernel
theorem d_L_law_659 : decode cL_law 659 = .ok (.ireturn, 1) := by decide +kernel
theorem d_L_law_660 : decode cL_law 660 = .ok (.goto 458, 3) := by decide +kernel
theorem d_L_law_663 : decode cL_law 663 = .ok (.aload_n 1, 1) := by decide +kernel
theorem d_L_law_664 : decode cL_law 664 = .ok (.aload_n 0, 1) := by decide +kernel
theorem d_L_law_665 : decode cL_law 665 = .ok (.iload 4, 2) := by decide +kernel
theorem d_L_law_667 : decode cL_law 667 = .ok (.iconst 1, 1) := by decide +kernel
theorem d_L_law_668 : decode cL_law 668 = .ok (.iadd, 1) := by decide +kernel
theorem d_L_law_669 : decode cL_law 669 = .ok (.iaload, 1) := by decide +kernel
theorem d_L_law_670 : decode cL_law 670 = .ok (.aload_n 0, 1) := by decide +kernel
theorem d_L_law_671 : decode cL_law 671 = .ok (.iload 4, 2) := by decide +kernel
theorem d_L_law_673 : decode cL_law 673 = .ok (.iconst 2, 1) := by decide +kernel
theorem d_L_law_674 : decode cL_law 674 = .ok (.iadd, 1) := by decide +kernel
theorem d_L_law_675 : decode cL_law 675 = .ok (.iaload, 1) := by decide +kernel
theorem d_L_law_676 : decode cL_law 676 = .ok (.aload_n 0, 1) := by decide +kernel
theorem d_L_law_677 : decode cL_law 677 = .ok (.iload 4, 2) := by decide +kernel
theorem d_L_law_679 : decode cL_law 679 = .ok (.iconst 3, 1) := by decide +kernel
theorem d_L_law_680 : decode cL_law 680 = .ok (.iadd, 1) := by decide +kernel
theorem d_L_law_681 : decode cL_law 681 = .ok (.iaload, 1) := by decide +kernel
theorem d_L_law_682 : decode cL_law 682 = .ok (.ifCond .eq 7, 3) := by decide +kernel
theorem d_L_law_685 : decode cL_law 685 = .ok (.iconst 1, 1) := by decide +kernel
theorem d_L_law_686 : decode cL_law 686 = .ok (.goto 4, 3) := by decide +kernel
theorem d_L_law_689 : decode cL_law 689 = .ok (.iconst 0, 1) := by decide +kernel
theorem d_L_law_690 : decode cL_law 690 = .ok (.aload_n 3, 1) := by decide +kernel
theorem d_L_law_691 : decode cL_law 691 = .ok (.invokestatic 109, 3) := by decide +kernel
theorem d_L_law_694 : decode cL_law 694 = .ok (.istore 5, 2) := by decide +kernel
theorem d_L_law_696 : decode cL_law 696 = .ok (.aload_n 2, 1) := by decide +kernel
theorem d_L_law_697 : decode cL_law 697 = .ok (.aload_n 0, 1) := by decide +kernel
theorem d_L_law_698 : decode cL_law 698 = .ok (.iload 4, 2) := by decide +kernel
theorem d_L_law_700 : decode cL_law 700 = .ok (.iconst 1, 1) := by decide +kernel
theorem d_L_law_701 : decode cL_law 701 = .ok (.iadd, 1) := by decide +kernel
theorem d_L_law_702 : decode cL_law 702 = .ok (.iaload, 1) := by decide +kernel
theorem d_L_law_703 : decode cL_law 703 = .ok (.aload_n 0, 1) := by decide +kernel
theorem d_L_law_704 : decode cL_law 704 = .ok (.iload 4, 2) := by decide +kernel
theorem d_L_law_706 : decode cL_law 706 = .ok (.iconst 2, 1) := by decide +kernel
theorem d_L_law_707 : decode cL_law 707 = .ok (.iadd, 1) := by decide +kernel
theorem d_L_law_708 : decode cL_law 708 = .ok (.iaload, 1) := by decide +kernel
theorem d_L_law_709 : decode cL_law 709 = .ok (.aload_n 0, 1) := by decide +kernel
theorem d_L_law_710 : decode cL_law 710 = .ok (.iload 4, 2) := by decide +kernel
theorem d_L_law_712 : decode cL_law 712 = .ok (.iconst 3, 1) := by decide +kernel
theorem d_L_law_713 : decode cL_law 713 = .ok (.iadd, 1) := by decide +kernel
theorem d_L_law_714 : decode cL_law 714 = .ok (.iaload, 1) := by decide +kernel
theorem d_L_law_715 : decode cL_law 715 = .ok (.ifCond .eq 7, 3) := by decide +kernel
theorem d_L_law_718 : decode cL_law 718 = .ok (.iconst 1, 1) := by decide +kernel
theorem d_L_law_719 : decode cL_law 719 = .ok (.goto 4, 3) := by decide +kernel
theorem d_L_law_722 : decode cL_law 722 = .ok (.iconst 0, 1) := by decide +kernel
theorem d_L_law_723 : decode cL_law 723 = .ok (.invokevirtual 111, 3) := by decide +kernel
theorem d_L_law_726 : decode cL_law 726 = .ok (.istore 6, 2) := by decide +kernel
theorem d_L_law_728 : decode cL_law 728 = .ok (.aload_n 2, 1) := by decide +kernel
theorem d_L_law_729 : decode cL_law 729 = .ok (.invokevirtual 81, 3) := by decide +kernel
theorem d_L_law_732 : decode cL_law 732 = .ok (.iload 5, 2) := by decide +kernel
theorem d_L_law_734 : decode cL_law 734 = .ok (.if_icmp .eq 5, 3) := by decide +kernel
theorem d_L_law_737 : decode cL_law 737 = .ok (.iconst 0, 1) := by decide +kernel
theorem d_L_law_738 : decode cL_law 738 = .ok (.ireturn, 1) := by decide +kernel
theorem d_L_law_739 : decode cL_law 739 = .ok (.iload 5, 2) := by decide +kernel
theorem d_L_law_741 : decode cL_law 741 = .ok (.ifCond .ne 15, 3) := by decide +kernel
theorem d_L_law_744 : decode cL_law 744 = .ok (.aload_n 3, 1) := by decide +kernel
theorem d_L_law_745 : decode cL_law 745 = .ok (.iconst 0, 1) := by decide +kernel
theorem d_L_law_746 : decode cL_law 746 = .ok (.laload, 1) := by decide +kernel
theorem d_L_law_747 : decode cL_law 747 = .ok (.iload 6, 2) := by decide +kernel
theorem d_L_law_749 : decode cL_law 749 = .ok (.i2l, 1) := by decide +kernel
theorem d_L_law_750 : decode cL_law 750 = .ok (.lcmp, 1) := by decide +kernel
theorem d_L_law_751 : decode cL_law 751 = .ok (.ifCond .eq 5, 3) := by decide +kernel
theorem d_L_law_754 : decode cL_law 754 = .ok (.iconst 0, 1) := by decide +kernel
theorem d_L_law_755 : decode cL_law 755 = .ok (.ireturn, 1) := by decide +kernel
theorem d_L_law_756 : decode cL_law 756 = .ok (.goto 362, 3) := by decide +kernel
theorem d_L_law_759 : decode cL_law 759 = .ok (.aload_n 1, 1) := by decide +kernel
theorem d_L_law_760 : decode cL_law 760 = .ok (.aload_n 0, 1) := by decide +kernel
theorem d_L_law_761 : decode cL_law 761 = .ok (.iload 4, 2) := by decide +kernel
theorem d_L_law_763 : decode cL_law 763 = .ok (.iconst 1, 1) := by decide +kernel
theorem d_L_law_764 : decode cL_law 764 = .ok (.iadd, 1) := by decide +kernel
theorem d_L_law_765 : decode cL_law 765 = .ok (.iaload, 1) := by decide +kernel
theorem d_L_law_766 : decode cL_law 766 = .ok (.aload_n 0, 1) := by decide +kernel
theorem d_L_law_767 : decode cL_law 767 = .ok (.iload 4, 2) := by decide +kernel
theorem d_L_law_769 : decode cL_law 769 = .ok (.iconst 2, 1) := by decide +kernel
theorem d_L_law_770 : decode cL_law 770 = .ok (.iadd, 1) := by decide +kernel
theorem d_L_law_771 : decode cL_law 771 = .ok (.iaload, 1) := by decide +kernel
theorem d_L_law_772 : decode cL_law 772 = .ok (.aload_n 3, 1) := by decide +kernel
theorem d_L_law_773 : decode cL_law 773 = .ok (.invokestatic 112, 3) := by decide +kernel
theorem d_L_law_776 : decode cL_law 776 = .ok (.istore 5, 2) := by decide +kernel
theorem d_L_law_778 : decode cL_law 778 = .ok (.aload_n 2, 1) := by decide +kernel
theorem d_L_law_779 : decode cL_law 779 = .ok (.aload_n 0, 1) := by decide +kernel
theorem d_L_law_780 : decode cL_law 780 = .ok (.iload 4, 2) := by decide +kernel
theorem d_L_law_782 : decode cL_law 782 = .ok (.iconst 1, 1) := by decide +kernel
theorem d_L_law_783 : decode cL_law 783 = .ok (.iadd, 1) := by decide +kernel
theorem d_L_law_784 : decode cL_law 784 = .ok (.iaload, 1) := by decide +kernel
theorem d_L_law_785 : decode cL_law 785 = .ok (.aload_n 0, 1) := by decide +kernel
theorem d_L_law_786 : decode cL_law 786 = .ok (.iload 4, 2) := by decide +kernel
theorem d_L_law_788 : decode cL_law 788 = .ok (.iconst 2, 1) := by decide +kernel
theorem d_L_law_789 : decode cL_law 789 = .ok (.iadd, 1) := by decide +kernel
theorem d_L_law_790 : decode cL_law 790 = .ok (.iaload, 1) := by decide +kernel
theorem d_L_law_791 : decode cL_law 791 = .ok (.invokevirtual 114, 3) := by decide +kernel
theorem d_L_law_794 : decode cL_law 794 = .ok (.istore 6, 2) := by decide +kernel
theorem d_L_law_796 : decode cL_law 796 = .ok (.aload_n 2, 1) := by decide +kernel
theorem d_L_law_797 : decode cL_law 797 = .ok (.invokevirtual 81, 3) := by decide +kernel
theorem d_L_law_800 : decode cL_law 800 = .ok (.iload 5, 2) := by decide +kernel
theorem d_L_law_802 : decode cL_law 802 = .ok (.if_icmp .eq 5, 3) := by decide +kernel
theorem d_L_law_805 : decode cL_law 805 = .ok (.iconst 0, 1) := by decide +kernel
theorem d_L_law_806 : decode cL_law 806 = .ok (.ireturn, 1) := by decide +kernel
theorem d_L_law_807 : decode cL_law 807 = .ok (.iload 5, 2) := by decide +kernel
theorem d_L_law_809 : decode cL_law 809 = .ok (.ifCond .ne 22, 3) := by decide +kernel
theorem d_L_law_812 : decode cL_law 812 = .ok (.aload_n 3, 1) := by decide +kernel
theorem d_L_law_813 : decode cL_law 813 = .ok (.iconst 0, 1) := by decide +kernel
theorem d_L_law_814 : decode cL_law 814 = .ok (.laload, 1) := by decide +kernel
theorem d_L_law_815 : decode cL_law 815 = .ok (.iload 6, 2) := by decide +kernel
theorem d_L_law_817 : decode cL_law 817 = .ok (.ifCond .eq 7, 3) := by decide +kernel
theorem d_L_law_820 : decode cL_law 820 = .ok (.lconst 1, 1) := by decide +kernel
theorem d_L_law_821 : decode cL_law 821 = .ok (.goto 4, 3) := by decide +kernel
theorem d_L_law_824 : decode cL_law 824 = .ok (.lconst 0, 1) := by decide +kernel
theorem d_L_law_825 : decode cL_law 825 = .ok (.lcmp, 1) := by decide +kernel
theorem d_L_law_826 : decode cL_law 826 = .ok (.ifCond .eq 5, 3) := by decide +kernel
theorem d_L_law_829 : decode cL_law 829 = .ok (.iconst 0, 1) := by decide +kernel
theorem d_L_law_830 : decode cL_law 830 = .ok (.ireturn, 1) := by decide +kernel
theorem d_L_law_831 : decode cL_law 831 = .ok (.goto 287, 3) := by decide +kernel
theorem d_L_law_834 : decode cL_law 834 = .ok (.aload_n 1, 1) := by decide +kernel
theorem d_L_law_835 : decode cL_law 835 = .ok (.aload_n 0, 1) := by decide +kernel
theorem d_L_law_836 : decode cL_law 836 = .ok (.iload 4, 2) := by decide +kernel
theorem d_L_law_838 : decode cL_law 838 = .ok (.iconst 1, 1) := by decide +kernel
theorem d_L_law_839 : decode cL_law 839 = .ok (.iadd, 1) := by decide +kernel
theorem d_L_law_840 : decode cL_law 840 = .ok (.iaload, 1) := by decide +kernel
theorem d_L_law_841 : decode cL_law 841 = .ok (.aload_n 0, 1) := by decide +kernel
theorem d_L_law_842 : decode cL_law 842 = .ok (.iload 4, 2) := by decide +kernel
theorem d_L_law_844 : decode cL_law 844 = .ok (.iconst 2, 1) := by decide +kernel
theorem d_L_law_845 : decode cL_law 845 = .ok (.iadd, 1) := by decide +kernel
theorem d_L_law_846 : decode cL_law 846 = .ok (.iaload, 1) := by decide +kernel
theorem d_L_law_847 : decode cL_law 847 = .ok (.aload_n 3, 1) := by decide +kernel
theorem d_L_law_848 : decode cL_law 848 = .ok (.invokestatic 115, 3) := by decide +kernel
theorem d_L_law_851 : decode cL_law 851 = .ok (.istore 5, 2) := by decide +kernel
theorem d_L_law_853 : decode cL_law 853 = .ok (.aload_n 2, 1) := by decide +kernel
theorem d_L_law_854 : decode cL_law 854 = .ok (.aload_n 0, 1) := by decide +kernel
theorem d_L_law_855 : decode cL_law 855 = .ok (.iload 4, 2) := by decide +kernel
theorem d_L_law_857 : decode cL_law 857 = .ok (.iconst 1, 1) := by decide +kernel
theorem d_L_law_858 : decode cL_law 858 = .ok (.iadd, 1) := by decide +kernel
theorem d_L_law_859 : decode cL_law 859 = .ok (.iaload, 1) := by decide +kernel
theorem d_L_law_860 : decode cL_law 860 = .ok (.aload_n 0, 1) := by decide +kernel
theorem d_L_law_861 : decode cL_law 861 = .ok (.iload 4, 2) := by decide +kernel
theorem d_L_law_863 : decode cL_law 863 = .ok (.iconst 2, 1) := by decide +kernel
theorem d_L_law_864 : decode cL_law 864 = .ok (.iadd, 1) := by decide +kernel
theorem d_L_law_865 : decode cL_law 865 = .ok (.iaload, 1) := by decide +kernel
theorem d_L_law_866 : decode cL_law 866 = .ok (.invokevirtual 117, 3) := by decide +kernel
theorem d_L_law_869 : decode cL_law 869 = .ok (.lstore 6, 2) := by decide +kernel
theorem d_L_law_871 : decode cL_law 871 = .ok (.aload_n 2, 1) := by decide +kernel
theorem d_L_law_872 : decode cL_law 872 = .ok (.invokevirtual 81, 3) := by decide +kernel
theorem d_L_law_875 : decode cL_law 875 = .ok (.iload 5, 2) := by decide +kernel
theorem d_L_law_877 : decode cL_law 877 = .ok (.if_icmp .eq 5, 3) := by decide +kernel
theorem d_L_law_880 : decode cL_law 880 = .ok (.iconst 0, 1) := by decide +kernel
theorem d_L_law_881 : decode cL_law 881 = .ok (.ireturn, 1) := by decide +kernel
theorem d_L_law_882 : decode cL_law 882 = .ok (.iload 5, 2) := by decide +kernel
theorem d_L_law_884 : decode cL_law 884 = .ok (.ifCond .ne 14, 3) := by decide +kernel
theorem d_L_law_887 : decode cL_law 887 = .ok (.aload_n 3, 1) := by decide +kernel
theorem d_L_law_888 : decode cL_law 888 = .ok (.iconst 0, 1) := by decide +kernel
theorem d_L_law_889 : decode cL_law 889 = .ok (.laload, 1) := by decide +kernel
theorem d_L_law_890 : decode cL_law 890 = .ok (.lload 6, 2) := by decide +kernel
theorem d_L_law_892 : decode cL_law 892 = .ok (.lcmp, 1) := by decide +kernel
theorem d_L_law_893 : decode cL_law 893 = .ok (.ifCond .eq 5, 3) := by decide +kernel
theorem d_L_law_896 : decode cL_law 896 = .ok (.iconst 0, 1) := by decide +kernel
theorem d_L_law_897 : decode cL_law 897 = .ok (.ireturn, 1) := by decide +kernel
theorem d_L_law_898 : decode cL_law 898 = .ok (.goto 220, 3) := by decide +kernel
theorem d_L_law_901 : decode cL_law 901 = .ok (.aload_n 1, 1) := by decide +kernel
theorem d_L_law_902 : decode cL_law 902 = .ok (.aload_n 0, 1) := by decide +kernel
theorem d_L_law_903 : decode cL_law 903 = .ok (.iload 4, 2) := by decide +kernel
theorem d_L_law_905 : decode cL_law 905 = .ok (.iconst 1, 1) := by decide +kernel
theorem d_L_law_906 : decode cL_law 906 = .ok (.iadd, 1) := by decide +kernel
theorem d_L_law_907 : decode cL_law 907 = .ok (.iaload, 1) := by decide +kernel
theorem d_L_law_908 : decode cL_law 908 = .ok (.aload_n 0, 1) := by decide +kernel
theorem d_L_law_909 : decode cL_law 909 = .ok (.iload 4, 2) := by decide +kernel
theorem d_L_law_911 : decode cL_law 911 = .ok (.iconst 2, 1) := by decide +kernel
theorem d_L_law_912 : decode cL_law 912 = .ok (.iadd, 1) := by decide +kernel
theorem d_L_law_913 : decode cL_law 913 = .ok (.iaload, 1) := by decide +kernel
theorem d_L_law_914 : decode cL_law 914 = .ok (.aload_n 0, 1) := by decide +kernel
theorem d_L_law_915 : decode cL_law 915 = .ok (.iload 4, 2) := by decide +kernel
theorem d_L_law_917 : decode cL_law 917 = .ok (.iconst 3, 1) := by decide +kernel
theorem d_L_law_918 : decode cL_law 918 = .ok (.iadd, 1) := by decide +kernel
theorem d_L_law_919 : decode cL_law 919 = .ok (.iaload, 1) := by decide +kernel
theorem d_L_law_920 : decode cL_law 920 = .ok (.aload_n 0, 1) := by decide +kernel
theorem d_L_law_921 : decode cL_law 921 = .ok (.iload 4, 2) := by decide +kernel
theorem d_L_law_923 : decode cL_law 923 = .ok (.iconst 4, 1) := by decide +kernel
theorem d_L_law_924 : decode cL_law 924 = .ok (.iadd, 1) := by decide +kernel
theorem d_L_law_925 : decode cL_law 925 = .ok (.iaload, 1) := by decide +kernel
theorem d_L_law_926 : decode cL_law 926 = .ok (.aload_n 3, 1) := by decide +kernel
theorem d_L_law_927 : decode cL_law 927 = .ok (.invokestatic 118, 3) := by decide +kernel
theorem d_L_law_930 : decode cL_law 930 = .ok (.istore 5, 2) := by decide +kernel
theorem d_L_law_932 : decode cL_law 932 = .ok (.aload_n 2, 1) := by decide +kernel
theorem d_L_law_933 : decode cL_law 933 = .ok (.aload_n 0, 1) := by decide +kernel
theorem d_L_law_934 : decode cL_law 934 = .ok (.iload 4, 2) := by decide +kernel
theorem d_L_law_936 : decode cL_law 936 = .ok (.iconst 1, 1) := by decide +kernel
theorem d_L_law_937 : decode cL_law 937 = .ok (.iadd, 1) := by decide +kernel
theorem d_L_law_938 : decode cL_law 938 = .ok (.iaload, 1) := by decide +kernel
theorem d_L_law_939 : decode cL_law 939 = .ok (.aload_n 0, 1) := by decide +kernel
theorem d_L_law_940 : decode cL_law 940 = .ok (.iload 4, 2) := by decide +kernel
theorem d_L_law_942 : decode cL_law 942 = .ok (.iconst 2, 1) := by decide +kernel
theorem d_L_law_943 : decode cL_law 943 = .ok (.iadd, 1) := by decide +kernel
theorem d_L_law_944 : decode cL_law 944 = .ok (.iaload, 1) := by decide +kernel
theorem d_L_law_945 : decode cL_law 945 = .ok (.aload_n 0, 1) := by decide +kernel
theorem d_L_law_946 : decode cL_law 946 = .ok (.iload 4, 2) := by decide +kernel
theorem d_L_law_948 : decode cL_law 948 = .ok (.iconst 3, 1) := by decide +kernel
theorem d_L_law_949 : decode cL_law 949 = .ok (.iadd, 1) := by decide +kernel
theorem d_L_law_950 : decode cL_law 950 = .ok (.iaload, 1) := by decide +kernel
theorem d_L_law_951 : decode cL_law 951 = .ok (.aload_n 0, 1) := by decide +kernel
theorem d_L_law_952 : decode cL_law 952 = .ok (.iload 4, 2) := by decide +kernel
theorem d_L_law_954 : decode cL_law 954 = .ok (.iconst 4, 1) := by decide +kernel
theorem d_L_law_955 : decode cL_law 955 = .ok (.iadd, 1) := by decide +kernel
theorem d_L_law_956 : decode cL_law 956 = .ok (.iaload, 1) := by decide +kernel
theorem d_L_law_957 : decode cL_law 957 = .ok (.invokevirtual 121, 3) := by decide +kernel
theorem d_L_law_960 : decode cL_law 960 = .ok (.istore 6, 2) := by decide +kernel
theorem d_L_law_962 : decode cL_law 962 = .ok (.aload_n 2, 1) := by decide +kernel
theorem d_L_law_963 : decode cL_law 963 = .ok (.invokevirtual 81, 3) := by decide +kernel
theorem d_L_law_966 : decode cL_law 966 = .ok (.iload 5, 2) := by decide +kernel
theorem d_L_law_968 : decode cL_law 968 = .ok (.if_icmp .eq 5, 3) := by decide +kernel
theorem d_L_law_971 : decode cL_law 971 = .ok (.iconst 0, 1) := by decide +kernel
theorem d_L_law_972 : decode cL_law 972 = .ok (.ireturn, 1) := by decide +kernel
theorem d_L_law_973 : decode cL_law 973 = .ok (.iload 5, 2) := by decide +kernel
theorem d_L_law_975 : decode cL_law 975 = .ok (.ifCond .ne 15, 3) := by decide +kernel
theorem d_L_law_978 : decode cL_law 978 = .ok (.aload_n 3, 1) := by decide +kernel
theorem d_L_law_979 : decode cL_law 979 = .ok (.iconst 0, 1) := by decide +kernel
theorem d_L_law_980 : decode cL_law 980 = .ok (.laload, 1) := by decide +kernel
theorem d_L_law_981 : decode cL_law 981 = .ok (.iload 6, 2) := by decide +kernel
theorem d_L_law_983 : decode cL_law 983 = .ok (.i2l, 1) := by decide +kernel
theorem d_L_law_984 : decode cL_law 984 = .ok (.lcmp, 1) := by decide +kernel
theorem d_L_law_985 : decode cL_law 985 = .ok (.ifCond .eq 5, 3) := by decide +kernel
theorem d_L_law_988 : decode cL_law 988 = .ok (.iconst 0, 1) := by decide +kernel
theorem d_L_law_989 : decode cL_law 989 = .ok (.ireturn, 1) := by decide +kernel
theorem d_L_law_990 : decode cL_law 990 = .ok (.goto 128, 3) := by decide +kernel
theorem d_L_law_993 : decode cL_law 993 = .ok (.aload_n 1, 1) := by decide +kernel
theorem d_L_law_994 : decode cL_law 994 = .ok (.invokevirtual 122, 3) := by decide +kernel
theorem d_L_law_997 : decode cL_law 997 = .ok (.aload_n 2, 1) := by decide +kernel
theorem d_L_law_998 : decode cL_law 998 = .ok (.invokevirtual 125, 3) := by decide +kernel
theorem d_L_law_1001 : decode cL_law 1001 = .ok (.if_icmp .eq 117, 3) := by decide +kernel
theorem d_L_law_1004 : decode cL_law 1004 = .ok (.iconst 0, 1) := by decide +kernel
theorem d_L_law_1005 : decode cL_law 1005 = .ok (.ireturn, 1) := by decide +kernel
theorem d_L_law_1006 : decode cL_law 1006 = .ok (.aload_n 1, 1) := by decide +kernel
theorem d_L_law_1007 : decode cL_law 1007 = .ok (.aload_n 0, 1) := by decide +kernel
theorem d_L_law_1008 : decode cL_law 1008 = .ok (.iload 4, 2) := by decide +kernel
theorem d_L_law_1010 : decode cL_law 1010 = .ok (.iconst 1, 1) := by decide +kernel
theorem d_L_law_1011 : decode cL_law 1011 = .ok (.iadd, 1) := by decide +kernel
theorem d_L_law_1012 : decode cL_law 1012 = .ok (.iaload, 1) := by decide +kernel
theorem d_L_law_1013 : decode cL_law 1013 = .ok (.aload_n 3, 1) := by decide +kernel
theorem d_L_law_1014 : decode cL_law 1014 = .ok (.invokestatic 126, 3) := by decide +kernel
theorem d_L_law_1017 : decode cL_law 1017 = .ok (.istore 5, 2) := by decide +kernel
theorem d_L_law_1019 : decode cL_law 1019 = .ok (.aload_n 2, 1) := by decide +kernel
theorem d_L_law_1020 : decode cL_law 1020 = .ok (.aload_n 0, 1) := by decide +kernel
theorem d_L_law_1021 : decode cL_law 1021 = .ok (.iload 4, 2) := by decide +kernel
theorem d_L_law_1023 : decode cL_law 1023 = .ok (.iconst 1, 1) := by decide +kernel
theorem d_L_law_1024 : decode cL_law 1024 = .ok (.iadd, 1) := by decide +kernel
theorem d_L_law_1025 : decode cL_law 1025 = .ok (.iaload, 1) := by decide +kernel
theorem d_L_law_1026 : decode cL_law 1026 = .ok (.invokevirtual 128, 3) := by decide +kernel
theorem d_L_law_1029 : decode cL_law 1029 = .ok (.istore 6, 2) := by decide +kernel
theorem d_L_law_1031 : decode cL_law 1031 = .ok (.aload_n 2, 1) := by decide +kernel
theorem d_L_law_1032 : decode cL_law 1032 = .ok (.invokevirtual 81, 3) := by decide +kernel
theorem d_L_law_1035 : decode cL_law 1035 = .ok (.iload 5, 2) := by decide +kernel
theorem d_L_law_1037 : decode cL_law 1037 = .ok (.if_icmp .eq 5, 3) := by decide +kernel
theorem d_L_law_1040 : decode cL_law 1040 = .ok (.iconst 0, 1) := by decide +kernel
theorem d_L_law_1041 : decode cL_law 1041 = .ok (.ireturn, 1) := by decide +kernel
theorem d_L_law_1042 : decode cL_law 1042 = .ok (.iload 5, 2) := by decide +kernel
theorem d_L_law_1044 : decode cL_law 1044 = .ok (.ifCond .ne 15, 3) := by decide +kernel
theorem d_L_law_1047 : decode cL_law 1047 = .ok (.aload_n 3, 1) := by decide +kernel
theorem d_L_law_1048 : decode cL_law 1048 = .ok (.iconst 0, 1) := by decide +kernel
theorem d_L_law_1049 : decode cL_law 1049 = .ok (.laload, 1) := by decide +kernel
theorem d_L_law_1050 : decode cL_law 1050 = .ok (.iload 6, 2) := by decide +kernel
theorem d_L_law_1052 : decode cL_law 1052 = .ok (.i2l, 1) := by decide +kernel
theorem d_L_law_1053 : decode cL_law 1053 = .ok (.lcmp, 1) := by decide +kernel
theorem d_L_law_1054 : decode cL_law 1054 = .ok (.ifCond .eq 5, 3) := by decide +kernel
theorem d_L_law_1057 : decode cL_law 1057 = .ok (.iconst 0, 1) := by decide +kernel
theorem d_L_law_1058 : decode cL_law 1058 = .ok (.ireturn, 1) := by decide +kernel
theorem d_L_law_1059 : decode cL_law 1059 = .ok (.goto 59, 3) := by decide +kernel
theorem d_L_law_1062 : decode cL_law 1062 = .ok (.aload_n 1, 1) := by decide +kernel
theorem d_L_law_1063 : decode cL_law 1063 = .ok (.aload_n 0, 1) := by decide +kernel
theorem d_L_law_1064 : decode cL_law 1064 = .ok (.iload 4, 2) := by decide +kernel
theorem d_L_law_1066 : decode cL_law 1066 = .ok (.iconst 1, 1) := by decide +kernel
theorem d_L_law_1067 : decode cL_law 1067 = .ok (.iadd, 1) := by decide +kernel
theorem d_L_law_1068 : decode cL_law 1068 = .ok (.iaload, 1) := by decide +kernel
theorem d_L_law_1069 : decode cL_law 1069 = .ok (.aload_n 3, 1) := by decide +kernel
theorem d_L_law_1070 : decode cL_law 1070 = .ok (.invokestatic 129, 3) := by decide +kernel
theorem d_L_law_1073 : decode cL_law 1073 = .ok (.istore 5, 2) := by decide +kernel
theorem d_L_law_1075 : decode cL_law 1075 = .ok (.aload_n 2, 1) := by decide +kernel
theorem d_L_law_1076 : decode cL_law 1076 = .ok (.aload_n 0, 1) := by decide +kernel
theorem d_L_law_1077 : decode cL_law 1077 = .ok (.iload 4, 2) := by decide +kernel
theorem d_L_law_1079 : decode cL_law 1079 = .ok (.iconst 1, 1) := by decide +kernel
theorem d_L_law_1080 : decode cL_law 1080 = .ok (.iadd, 1) := by decide +kernel
theorem d_L_law_1081 : decode cL_law 1081 = .ok (.iaload, 1) := by decide +kernel
theorem d_L_law_1082 : decode cL_law 1082 = .ok (.invokevirtual 131, 3) := by decide +kernel
theorem d_L_law_1085 : decode cL_law 1085 = .ok (.istore 6, 2) := by decide +kernel
theorem d_L_law_1087 : decode cL_law 1087 = .ok (.aload_n 2, 1) := by decide +kernel
theorem d_L_law_1088 : decode cL_law 1088 = .ok (.invokevirtual 81, 3) := by decide +kernel
theorem d_L_law_1091 : decode cL_law 1091 = .ok (.iload 5, 2) := by decide +kernel
theorem d_L_law_1093 : decode cL_law 1093 = .ok (.if_icmp .eq 5, 3) := by decide +kernel
theorem d_L_law_1096 : decode cL_law 1096 = .ok (.iconst 0, 1) := by decide +kernel
theorem d_L_law_1097 : decode cL_law 1097 = .ok (.ireturn, 1) := by decide +kernel
theorem d_L_law_1098 : decode cL_law 1098 = .ok (.iload 5, 2) := by decide +kernel
theorem d_L_law_1100 : decode cL_law 1100 = .ok (.ifCond .ne 15, 3) := by decide +kernel
theorem d_L_law_1103 : decode cL_law 1103 = .ok (.aload_n 3, 1) := by decide +kernel
theorem d_L_law_1104 : decode cL_law 1104 = .ok (.iconst 0, 1) := by decide +kernel
theorem d_L_law_1105 : decode cL_law 1105 = .ok (.laload, 1) := by decide +kernel
theorem d_L_law_1106 : decode cL_law 1106 = .ok (.iload 6, 2) := by decide +kernel
theorem d_L_law_1108 : decode cL_law 1108 = .ok (.i2l, 1) := by decide +kernel
theorem d_L_law_1109 : decode cL_law 1109 = .ok (.lcmp, 1) := by decide +kernel
theorem d_L_law_1110 : decode cL_law 1110 = .ok (.ifCond .eq 5, 3) := by decide +kernel
theorem d_L_law_1113 : decode cL_law 1113 = .ok (.iconst 0, 1) := by decide +kernel
theorem d_L_law_1114 : decode cL_law 1114 = .ok (.ireturn, 1) := by decide +kernel
theorem d_L_law_1115 : decode cL_law 1115 = .ok (.goto 3, 3) := by decide +kernel
theorem d_L_law_1118 : decode cL_law 1118 = .ok (.iinc 4 5, 3) := by decide +kernel
theorem d_L_law_1121 : decode cL_law 1121 = .ok (.goto (-1088), 3) := by decide +kernel
theorem d_L_law_1124 : decode cL_law 1124 = .ok (.iconst 1, 1) := by decide +kernel
theorem d_L_law_1125 : decode cL_law 1125 = .ok (.ireturn, 1) := by decide +kernel
theorem sg_L_law_33 {L : Nat} {xs : Nat → Int32} {σ : ks_St} {mc ms : Nat} {P : ka_O → ks_St → Prop} {x4 : Int32}  (r2 : (((nI L) - 5) < x4) → P (.inl (some (.int 1))) σ) (v3 : (¬ (((nI L) - 5) < x4)) → vp_in x4 L) (k5 : (¬ (((nI L) - 5) < x4)) → (((xs x4.toNatClampNeg) &&& 15) = 0) → ks_W L xs mL_law rm_L_law 122 [(0, .ref ka_S), (1, .ref 0), (2, .ref 17), (3, .ref 29), (4, .int x4)] [.ref 29, .ref 0] σ mc ms P) (v7 : (¬ (((nI L) - 5) < x4)) → (¬ ((xs x4.toNatClampNeg) &&& 15) = 0) → (((xs x4.toNatClampNeg) &&& 15) = 1) → vp_in (x4 + 1) L) (v8 : (¬ (((nI L) - 5) < x4)) → (¬ ((xs x4.toNatClampNeg) &&& 15) = 0) → (((xs x4.toNatClampNeg) &&& 15) = 1) → vp_in (x4 + 2) L) (v9 : (¬ (((nI L) - 5) < x4)) → (¬ ((xs x4.toNatClampNeg) &&& 15) = 0) → (((xs x4.toNatClampNeg) &&& 15) = 1) → vp_in (x4 + 3) L) (v10 : (¬ (((nI L) - 5) < x4)) → (¬ ((xs x4.toNatClampNeg) &&& 15) = 0) → (((xs x4.toNatClampNeg) &&& 15) = 1) → vp_in (x4 + 4) L) (k11 : (¬ (((nI L) - 5) < x4)) → (¬ ((xs x4.toNatClampNeg) &&& 15) = 0) → (((xs x4.toNatClampNeg) &&& 15) = 1) → ks_W L xs mL_law rm_L_law 200 [(0, .ref ka_S), (1, .ref 0), (2, .ref 17), (3, .ref 29), (4, .int x4)] [.ref 29, .long ((((xs (x4 + 3).toNatClampNeg).toInt64) <<< (((32 : Int32)).toInt64 &&& 63)) ||| (((xs (x4 + 4).toNatClampNeg).toInt64) &&& 4294967295)), .int (xs (x4 + 2).toNatClampNeg), .int (xs (x4 + 1).toNatClampNeg), .ref 0] σ mc ms P) (v13 : (¬ (((nI L) - 5) < x4)) → (¬ ((xs x4.toNatClampNeg) &&& 15) = 0) → (¬ ((xs x4.toNatClampNeg) &&& 15) = 1) → (((xs x4.toNatClampNeg) &&& 15) = 2) → vp_in (x4 + 1) L) (v14 : (¬ (((nI L) - 5) < x4)) → (¬ ((xs x4.toNatClampNeg) &&& 15) = 0) → (¬ ((xs x4.toNatClampNeg) &&& 15) = 1) → (((xs x4.toNatClampNeg) &&& 15) = 2) → vp_in (x4 + 2) L) (v15 : (¬ (((nI L) - 5) < x4)) → (¬ ((xs x4.toNatClampNeg) &&& 15) = 0) → (¬ ((xs x4.toNatClampNeg) &&& 15) = 1) → (((xs x4.toNatClampNeg) &&& 15) = 2) → vp_in (x4 + 3) L) (k16 : (¬ (((nI L) - 5) < x4)) → (¬ ((xs x4.toNatClampNeg) &&& 15) = 0) → (¬ ((xs x4.toNatClampNeg) &&& 15) = 1) → (((xs x4.toNatClampNeg) &&& 15) = 2) → ks_W L xs mL_law rm_L_law 303 [(0, .ref ka_S), (1, .ref 0), (2, .ref 17), (3, .ref 29), (4, .int x4)] [.ref 29, .int (xs (x4 + 3).toNatClampNeg), .int (xs (x4 + 2).toNatClampNeg), .int (xs (x4 + 1).toNatClampNeg), .ref 0] σ mc ms P) (v18 : (¬ (((nI L) - 5) < x4)) → (¬ ((xs x4.toNatClampNeg) &&& 15) = 0) → (¬ ((xs x4.toNatClampNeg) &&& 15) = 1) → (¬ ((xs x4.toNatClampNeg) &&& 15) = 2) → (((xs x4.toNatClampNeg) &&& 15) = 3) → vp_in (x4 + 1) L) (k19 : (¬ (((nI L) - 5) < x4)) → (¬ ((xs x4.toNatClampNeg) &&& 15) = 0) → (¬ ((xs x4.toNatClampNeg) &&& 15) = 1) → (¬ ((xs x4.toNatClampNeg) &&& 15) = 2) → (((xs x4.toNatClampNeg) &&& 15) = 3) → ks_W L xs mL_law rm_L_law 371 [(0, .ref ka_S), (1, .ref 0), (2, .ref 17), (3, .ref 29), (4, .int x4)] [.ref 29, .int (xs (x4 + 1).toNatClampNeg), .ref 0] σ mc ms P) (v21 : (¬ (((nI L) - 5) < x4)) → (¬ ((xs x4.toNatClampNeg) &&& 15) = 0) → (¬ ((xs x4.toNatClampNeg) &&& 15) = 1) → (¬ ((xs x4.toNatClampNeg) &&& 15) = 2) → (¬ ((xs x4.toNatClampNeg) &&& 15) = 3) → (((xs x4.toNatClampNeg) &&& 15) = 4) → vp_in (x4 + 1) L) (v22 : (¬ (((nI L) - 5) < x4)) → (¬ ((xs x4.toNatClampNeg) &&& 15) = 0) → (¬ ((xs x4.toNatClampNeg) &&& 15) = 1) → (¬ ((xs x4.toNatClampNeg) &&& 15) = 2) → (¬ ((xs x4.toNatClampNeg) &&& 15) = 3) → (((xs x4.toNatClampNeg) &&& 15) = 4) → vp_in (x4 + 2) L) (v23 : (¬ (((nI L) - 5) < x4)) → (¬ ((xs x4.toNatClampNeg) &&& 15) = 0) → (¬ ((xs x4.toNatClampNeg) &&& 15) = 1) → (¬ ((xs x4.toNatClampNeg) &&& 15) = 2) → (¬ ((xs x4.toNatClampNeg) &&& 15) = 3) → (((xs x4.toNatClampNeg) &&& 15) = 4) → vp_in (x4 + 3) L) (k24 : (¬ (((nI L) - 5) < x4)) → (¬ ((xs x4.toNatClampNeg) &&& 15) = 0) → (¬ ((xs x4.toNatClampNeg) &&& 15) = 1) → (¬ ((xs x4.toNatClampNeg) &&& 15) = 2) → (¬ ((xs x4.toNatClampNeg) &&& 15) = 3) → (((xs x4.toNatClampNeg) &&& 15) = 4) → ks_W L xs mL_law rm_L_law 439 [(0, .ref ka_S), (1, .ref 0), (2, .ref 17), (3, .ref 29), (4, .int x4)] [.ref 29, .int (xs (x4 + 3).toNatClampNeg), .int (xs (x4 + 2).toNatClampNeg), .int (xs (x4 + 1).toNatClampNeg), .ref 0] σ mc ms P) (v26 : (¬ (((nI L) - 5) < x4)) → (¬ ((xs x4.toNatClampNeg) &&& 15) = 0) → (¬ ((xs x4.toNatClampNeg) &&& 15) = 1) → (¬ ((xs x4.toNatClampNeg) &&& 15) = 2) → (¬ ((xs x4.toNatClampNeg) &&& 15) = 3) → (¬ ((xs x4.toNatClampNeg) &&& 15) = 4) → (((xs x4.toNatClampNeg) &&& 15) = 5) → vp_in (x4 + 1) L) (v27 : (¬ (((nI L) - 5) < x4)) → (¬ ((xs x4.toNatClampNeg) &&& 15) = 0) → (¬ ((xs x4.toNatClampNeg) &&& 15) = 1) → (¬ ((xs x4.toNatClampNeg) &&& 15) = 2) → (¬ ((xs x4.toNatClampNeg) &&& 15) = 3) → (¬ ((xs x4.toNatClampNeg) &&& 15) = 4) → (((xs x4.toNatClampNeg) &&& 15) = 5) → vp_in (x4 + 2) L) (k28 : (¬ (((nI L) - 5) < x4)) → (¬ ((xs x4.toNatClampNeg) &&& 15) = 0) → (¬ ((xs x4.toNatClampNeg) &&& 15) = 1) → (¬ ((xs x4.toNatClampNeg) &&& 15) = 2) → (¬ ((xs x4.toNatClampNeg) &&& 15) = 3) → (¬ ((xs x4.toNatClampNeg) &&& 15) = 4) → (((xs x4.toNatClampNeg) &&& 15) = 5) → ks_W L xs mL_law rm_L_law 513 [(0, .ref ka_S), (1, .ref 0), (2, .ref 17), (3, .ref 29), (4, .int x4)] [.ref 29, .int (xs (x4 + 2).toNatClampNeg), .int (xs (x4 + 1).toNatClampNeg), .ref 0] σ mc ms P) (v30 : (¬ (((nI L) - 5) < x4)) → (¬ ((xs x4.toNatClampNeg) &&& 15) = 0) → (¬ ((xs x4.toNatClampNeg) &&& 15) = 1) → (¬ ((xs x4.toNatClampNeg) &&& 15) = 2) → (¬ ((xs x4.toNatClampNeg) &&& 15) = 3) → (¬ ((xs x4.toNatClampNeg) &&& 15) = 4) → (¬ ((xs x4.toNatClampNeg) &&& 15) = 5) → (((xs x4.toNatClampNeg) &&& 15) = 6) → vp_in (x4 + 1) L) (v31 : (¬ (((nI L) - 5) < x4)) → (¬ ((xs x4.toNatClampNeg) &&& 15) = 0) → (¬ ((xs x4.toNatClampNeg) &&& 15) = 1) → (¬ ((xs x4.toNatClampNeg) &&& 15) = 2) → (¬ ((xs x4.toNatClampNeg) &&& 15) = 3) → (¬ ((xs x4.toNatClampNeg) &&& 15) = 4) → (¬ ((xs x4.toNatClampNeg) &&& 15) = 5) → (((xs x4.toNatClampNeg) &&& 15) = 6) → vp_in (x4 + 2) L) (v32 : (¬ (((nI L) - 5) < x4)) → (¬ ((xs x4.toNatClampNeg) &&& 15) = 0) → (¬ ((xs x4.toNatClampNeg) &&& 15) = 1) → (¬ ((xs x4.toNatClampNeg) &&& 15) = 2) → (¬ ((xs x4.toNatClampNeg) &&& 15) = 3) → (¬ ((xs x4.toNatClampNeg) &&& 15) = 4) → (¬ ((xs x4.toNatClampNeg) &&& 15) = 5) → (((xs x4.toNatClampNeg) &&& 15) = 6) → vp_in (x4 + 3) L) (k34 : (¬ (((nI L) - 5) < x4)) → (¬ ((xs x4.toNatClampNeg) &&& 15) = 0) → (¬ ((xs x4.toNatClampNeg) &&& 15) = 1) → (¬ ((xs x4.toNatClampNeg) &&& 15) = 2) → (¬ ((xs x4.toNatClampNeg) &&& 15) = 3) → (¬ ((xs x4.toNatClampNeg) &&& 15) = 4) → (¬ ((xs x4.toNatClampNeg) &&& 15) = 5) → (((xs x4.toNatClampNeg) &&& 15) = 6) → ((xs (x4 + 3).toNatClampNeg) = 0) → ks_W L xs mL_law rm_L_law 594 [(0, .ref ka_S), (1, .ref 0), (2, .ref 17), (3, .ref 29), (4, .int x4)] [.int 0, .int (xs (x4 + 2).toNatClampNeg), .int (xs (x4 + 1).toNatClampNeg), .ref 0] σ mc ms P) (k35 : (¬ (((nI L) - 5) < x4)) → (¬ ((xs x4.toNatClampNeg) &&& 15) = 0) → (¬ ((xs x4.toNatClampNeg) &&& 15) = 1) → (¬ ((xs x4.toNatClampNeg) &&& 15) = 2) → (¬ ((xs x4.toNatClampNeg) &&& 15) = 3) → (¬ ((xs x4.toNatClampNeg) &&& 15) = 4) → (¬ ((xs x4.toNatClampNeg) &&& 15) = 5) → (((xs x4.toNatClampNeg) &&& 15) = 6) → (¬ ((xs (x4 + 3).toNatClampNeg) = 0)) → ks_W L xs mL_law rm_L_law 594 [(0, .ref ka_S), (1, .ref 0), (2, .ref 17), (3, .ref 29), (4, .int x4)] [.int 1, .int (xs (x4 + 2).toNatClampNeg), .int (xs (x4 + 1).toNatClampNeg), .ref 0] σ mc ms P) (v37 : (¬ (((nI L) - 5) < x4)) → (¬ ((xs x4.toNatClampNeg) &&& 15) = 0) → (¬ ((xs x4.toNatClampNeg) &&& 15) = 1) → (¬ ((xs x4.toNatClampNeg) &&& 15) = 2) → (¬ ((xs x4.toNatClampNeg) &&& 15) = 3) → (¬ ((xs x4.toNatClampNeg) &&& 15) = 4) → (¬ ((xs x4.toNatClampNeg) &&& 15) = 5) → (¬ ((xs x4.toNatClampNeg) &&& 15) = 6) → (((xs x4.toNatClampNeg) &&& 15) = 7) → vp_in (x4 + 1) L) (v38 : (¬ (((nI L) - 5) < x4)) → (¬ ((xs x4.toNatClampNeg) &&& 15) = 0) → (¬ ((xs x4.toNatClampNeg) &&& 15) = 1) → (¬ ((xs x4.toNatClampNeg) &&& 15) = 2) → (¬ ((xs x4.toNatClampNeg) &&& 15) = 3) → (¬ ((xs x4.toNatClampNeg) &&& 15) = 4) → (¬ ((xs x4.toNatClampNeg) &&& 15) = 5) → (¬ ((xs x4.toNatClampNeg) &&& 15) = 6) → (((xs x4.toNatClampNeg) &&& 15) = 7) → vp_in (x4 + 2) L) (v39 : (¬ (((nI L) - 5) < x4)) → (¬ ((xs x4.toNatClampNeg) &&& 15) = 0) → (¬ ((xs x4.toNatClampNeg) &&& 15) = 1) → (¬ ((xs x4.toNatClampNeg) &&& 15) = 2) → (¬ ((xs x4.toNatClampNeg) &&& 15) = 3) → (¬ ((xs x4.toNatClampNeg) &&& 15) = 4) → (¬ ((xs x4.toNatClampNeg) &&& 15) = 5) → (¬ ((xs x4.toNatClampNeg) &&& 15) = 6) → (((xs x4.toNatClampNeg) &&& 15) = 7) → vp_in (x4 + 3) L) (k41 : (¬ (((nI L) - 5) < x4)) → (¬ ((xs x4.toNatClampNeg) &&& 15) = 0) → (¬ ((xs x4.toNatClampNeg) &&& 15) = 1) → (¬ ((xs x4.toNatClampNeg) &&& 15) = 2) → (¬ ((xs x4.toNatClampNeg) &&& 15) = 3) → (¬ ((xs x4.toNatClampNeg) &&& 15) = 4) → (¬ ((xs x4.toNatClampNeg) &&& 15) = 5) → (¬ ((xs x4.toNatClampNeg) &&& 15) = 6) → (((xs x4.toNatClampNeg) &&& 15) = 7) → ((xs (x4 + 3).toNatClampNeg) = 0) → ks_W L xs mL_law rm_L_law 690 [(0, .ref ka_S), (1, .ref 0), (2, .ref 17), (3, .ref 29), (4, .int x4)] [.int 0, .int (xs (x4 + 2).toNatClampNeg), .int (xs (x4 + 1).toNatClampNeg), .ref 0] σ mc ms P) (k42 : (¬ (((nI L) - 5) < x4)) → (¬ ((xs x4.toNatClampNeg) &&& 15) = 0) → (¬ ((xs x4.toNatClampNeg) &&& 15) = 1) → (¬ ((xs x4.toNatClampNeg) &&& 15) = 2) → (¬ ((xs x4.toNatClampNeg) &&& 15) = 3) → (¬ ((xs x4.toNatClampNeg) &&& 15) = 4) → (¬ ((xs x4.toNatClampNeg) &&& 15) = 5) → (¬ ((xs x4.toNatClampNeg) &&& 15) = 6) → (((xs x4.toNatClampNeg) &&& 15) = 7) → (¬ ((xs (x4 + 3).toNatClampNeg) = 0)) → ks_W L xs mL_law rm_L_law 690 [(0, .ref ka_S), (1, .ref 0), (2, .ref 17), (3, .ref 29), (4, .int x4)] [.int 1, .int (xs (x4 + 2).toNatClampNeg), .int (xs (x4 + 1).toNatClampNeg), .ref 0] σ mc ms P) (v44 : (¬ (((nI L) - 5) < x4)) → (¬ ((xs x4.toNatClampNeg) &&& 15) = 0) → (¬ ((xs x4.toNatClampNeg) &&& 15) = 1) → (¬ ((xs x4.toNatClampNeg) &&& 15) = 2) → (¬ ((xs x4.toNatClampNeg) &&& 15) = 3) → (¬ ((xs x4.toNatClampNeg) &&& 15) = 4) → (¬ ((xs x4.toNatClampNeg) &&& 15) = 5) → (¬ ((xs x4.toNatClampNeg) &&& 15) = 6) → (¬ ((xs x4.toNatClampNeg) &&& 15) = 7) → (((xs x4.toNatClampNeg) &&& 15) = 8) → vp_in (x4 + 1) L) (v45 : (¬ (((nI L) - 5) < x4)) → (¬ ((xs x4.toNatClampNeg) &&& 15) = 0) → (¬ ((xs x4.toNatClampNeg) &&& 15) = 1) → (¬ ((xs x4.toNatClampNeg) &&& 15) = 2) → (¬ ((xs x4.toNatClampNeg) &&& 15) = 3) → (¬ ((xs x4.toNatClampNeg) &&& 15) = 4) → (¬ ((xs x4.toNatClampNeg) &&& 15) = 5) → (¬ ((xs x4.toNatClampNeg) &&& 15) = 6) → (¬ ((xs x4.toNatClampNeg) &&& 15) = 7) → (((xs x4.toNatClampNeg) &&& 15) = 8) → vp_in (x4 + 2) L) (k46 : (¬ (((nI L) - 5) < x4)) → (¬ ((xs x4.toNatClampNeg) &&& 15) = 0) → (¬ ((xs x4.toNatClampNeg) &&& 15) = 1) → (¬ ((xs x4.toNatClampNeg) &&& 15) = 2) → (¬ ((xs x4.toNatClampNeg) &&& 15) = 3) → (¬ ((xs x4.toNatClampNeg) &&& 15) = 4) → (¬ ((xs x4.toNatClampNeg) &&& 15) = 5) → (¬ ((xs x4.toNatClampNeg) &&& 15) = 6) → (¬ ((xs x4.toNatClampNeg) &&& 15) = 7) → (((xs x4.toNatClampNeg) &&& 15) = 8) → ks_W L xs mL_law rm_L_law 773 [(0, .ref ka_S), (1, .ref 0), (2, .ref 17), (3, .ref 29), (4, .int x4)] [.ref 29, .int (xs (x4 + 2).toNatClampNeg), .int (xs (x4 + 1).toNatClampNeg), .ref 0] σ mc ms P) (v48 : (¬ (((nI L) - 5) < x4)) → (¬ ((xs x4.toNatClampNeg) &&& 15) = 0) → (¬ ((xs x4.toNatClampNeg) &&& 15) = 1) → (¬ ((xs x4.toNatClampNeg) &&& 15) = 2) → (¬ ((xs x4.toNatClampNeg) &&& 15) = 3) → (¬ ((xs x4.toNatClampNeg) &&& 15) = 4) → (¬ ((xs x4.toNatClampNeg) &&& 15) = 5) → (¬ ((xs x4.toNatClampNeg) &&& 15) = 6) → (¬ ((xs x4.toNatClampNeg) &&& 15) = 7) → (¬ ((xs x4.toNatClampNeg) &&& 15) = 8) → (((xs x4.toNatClampNeg) &&& 15) = 9) → vp_in (x4 + 1) L) (v49 : (¬ (((nI L) - 5) < x4)) → (¬ ((xs x4.toNatClampNeg) &&& 15) = 0) → (¬ ((xs x4.toNatClampNeg) &&& 15) = 1) → (¬ ((xs x4.toNatClampNeg) &&& 15) = 2) → (¬ ((xs x4.toNatClampNeg) &&& 15) = 3) → (¬ ((xs x4.toNatClampNeg) &&& 15) = 4) → (¬ ((xs x4.toNatClampNeg) &&& 15) = 5) → (¬ ((xs x4.toNatClampNeg) &&& 15) = 6) → (¬ ((xs x4.toNatClampNeg) &&& 15) = 7) → (¬ ((xs x4.toNatClampNeg) &&& 15) = 8) → (((xs x4.toNatClampNeg) &&& 15) = 9) → vp_in (x4 + 2) L) (k50 : (¬ (((nI L) - 5) < x4)) → (¬ ((xs x4.toNatClampNeg) &&& 15) = 0) → (¬ ((xs x4.toNatClampNeg) &&& 15) = 1) → (¬ ((xs x4.toNatClampNeg) &&& 15) = 2) → (¬ ((xs x4.toNatClampNeg) &&& 15) = 3) → (¬ ((xs x4.toNatClampNeg) &&& 15) = 4) → (¬ ((xs x4.toNatClampNeg) &&& 15) = 5) → (¬ ((xs x4.toNatClampNeg) &&& 15) = 6) → (¬ ((xs x4.toNatClampNeg) &&& 15) = 7) → (¬ ((xs x4.toNatClampNeg) &&& 15) = 8) → (((xs x4.toNatClampNeg) &&& 15) = 9) → ks_W L xs mL_law rm_L_law 848 [(0, .ref ka_S), (1, .ref 0), (2, .ref 17), (3, .ref 29), (4, .int x4)] [.ref 29, .int (xs (x4 + 2).toNatClampNeg), .int (xs (x4 + 1).toNatClampNeg), .ref 0] σ mc ms P) (v52 : (¬ (((nI L) - 5) < x4)) → (¬ ((xs x4.toNatClampNeg) &&& 15) = 0) → (¬ ((xs x4.toNatClampNeg) &&& 15) = 1) → (¬ ((xs x4.toNatClampNeg) &&& 15) = 2) → (¬ ((xs x4.toNatClampNeg) &&& 15) = 3) → (¬ ((xs x4.toNatClampNeg) &&& 15) = 4) → (¬ ((xs x4.toNatClampNeg) &&& 15) = 5) → (¬ ((xs x4.toNatClampNeg) &&& 15) = 6) → (¬ ((xs x4.toNatClampNeg) &&& 15) = 7) → (¬ ((xs x4.toNatClampNeg) &&& 15) = 8) → (¬ ((xs x4.toNatClampNeg) &&& 15) = 9) → (((xs x4.toNatClampNeg) &&& 15) = 10) → vp_in (x4 + 1) L) (v53 : (¬ (((nI L) - 5) < x4)) → (¬ ((xs x4.toNatClampNeg) &&& 15) = 0) → (¬ ((xs x4.toNatClampNeg) &&& 15) = 1) → (¬ ((xs x4.toNatClampNeg) &&& 15) = 2) → (¬ ((xs x4.toNatClampNeg) &&& 15) = 3) → (¬ ((xs x4.toNatClampNeg) &&& 15) = 4) → (¬ ((xs x4.toNatClampNeg) &&& 15) = 5) → (¬ ((xs x4.toNatClampNeg) &&& 15) = 6) → (¬ ((xs x4.toNatClampNeg) &&& 15) = 7) → (¬ ((xs x4.toNatClampNeg) &&& 15) = 8) → (¬ ((xs x4.toNatClampNeg) &&& 15) = 9) → (((xs x4.toNatClampNeg) &&& 15) = 10) → vp_in (x4 + 2) L) (v54 : (¬ (((nI L) - 5) < x4)) → (¬ ((xs x4.toNatClampNeg) &&& 15) = 0) → (¬ ((xs x4.toNatClampNeg) &&& 15) = 1) → (¬ ((xs x4.toNatClampNeg) &&& 15) = 2) → (¬ ((xs x4.toNatClampNeg) &&& 15) = 3) → (¬ ((xs x4.toNatClampNeg) &&& 15) = 4) → (¬ ((xs x4.toNatClampNeg) &&& 15) = 5) → (¬ ((xs x4.toNatClampNeg) &&& 15) = 6) → (¬ ((xs x4.toNatClampNeg) &&& 15) = 7) → (¬ ((xs x4.toNatClampNeg) &&& 15) = 8) → (¬ ((xs x4.toNatClampNeg) &&& 15) = 9) → (((xs x4.toNatClampNeg) &&& 15) = 10) → vp_in (x4 + 3) L) (v55 : (¬ (((nI L) - 5) < x4)) → (¬ ((xs x4.toNatClampNeg) &&& 15) = 0) → (¬ ((xs x4.toNatClampNeg) &&& 15) = 1) → (¬ ((xs x4.toNatClampNeg) &&& 15) = 2) → (¬ ((xs x4.toNatClampNeg) &&& 15) = 3) → (¬ ((xs x4.toNatClampNeg) &&& 15) = 4) → (¬ ((xs x4.toNatClampNeg) &&& 15) = 5) → (¬ ((xs x4.toNatClampNeg) &&& 15) = 6) → (¬ ((xs x4.toNatClampNeg) &&& 15) = 7) → (¬ ((xs x4.toNatClampNeg) &&& 15) = 8) → (¬ ((xs x4.toNatClampNeg) &&& 15) = 9) → (((xs x4.toNatClampNeg) &&& 15) = 10) → vp_in (x4 + 4) L) (k56 : (¬ (((nI L) - 5) < x4)) → (¬ ((xs x4.toNatClampNeg) &&& 15) = 0) → (¬ ((xs x4.toNatClampNeg) &&& 15) = 1) → (¬ ((xs x4.toNatClampNeg) &&& 15) = 2) → (¬ ((xs x4.toNatClampNeg) &&& 15) = 3) → (¬ ((xs x4.toNatClampNeg) &&& 15) = 4) → (¬ ((xs x4.toNatClampNeg) &&& 15) = 5) → (¬ ((xs x4.toNatClampNeg) &&& 15) = 6) → (¬ ((xs x4.toNatClampNeg) &&& 15) = 7) → (¬ ((xs x4.toNatClampNeg) &&& 15) = 8) → (¬ ((xs x4.toNatClampNeg) &&& 15) = 9) → (((xs x4.toNatClampNeg) &&& 15) = 10) → ks_W L xs mL_law rm_L_law 927 [(0, .ref ka_S), (1, .ref 0), (2, .ref 17), (3, .ref 29), (4, .int x4)] [.ref 29, .int (xs (x4 + 4).toNatClampNeg), .int (xs (x4 + 3).toNatClampNeg), .int (xs (x4 + 2).toNatClampNeg), .int (xs (x4 + 1).toNatClampNeg), .ref 0] σ mc ms P) (k58 : (¬ (((nI L) - 5) < x4)) → (¬ ((xs x4.toNatClampNeg) &&& 15) = 0) → (¬ ((xs x4.toNatClampNeg) &&& 15) = 1) → (¬ ((xs x4.toNatClampNeg) &&& 15) = 2) → (¬ ((xs x4.toNatClampNeg) &&& 15) = 3) → (¬ ((xs x4.toNatClampNeg) &&& 15) = 4) → (¬ ((xs x4.toNatClampNeg) &&& 15) = 5) → (¬ ((xs x4.toNatClampNeg) &&& 15) = 6) → (¬ ((xs x4.toNatClampNeg) &&& 15) = 7) → (¬ ((xs x4.toNatClampNeg) &&& 15) = 8) → (¬ ((xs x4.toNatClampNeg) &&& 15) = 9) → (¬ ((xs x4.toNatClampNeg) &&& 15) = 10) → (((xs x4.toNatClampNeg) &&& 15) = 11) → ks_W L xs mL_law rm_L_law 994 [(0, .ref ka_S), (1, .ref 0), (2, .ref 17), (3, .ref 29), (4, .int x4)] [.ref 0] σ mc ms P) (v60 : (¬ (((nI L) - 5) < x4)) → (¬ ((xs x4.toNatClampNeg) &&& 15) = 0) → (¬ ((xs x4.toNatClampNeg) &&& 15) = 1) → (¬ ((xs x4.toNatClampNeg) &&& 15) = 2) → (¬ ((xs x4.toNatClampNeg) &&& 15) = 3) → (¬ ((xs x4.toNatClampNeg) &&& 15) = 4) → (¬ ((xs x4.toNatClampNeg) &&& 15) = 5) → (¬ ((xs x4.toNatClampNeg) &&& 15) = 6) → (¬ ((xs x4.toNatClampNeg) &&& 15) = 7) → (¬ ((xs x4.toNatClampNeg) &&& 15) = 8) → (¬ ((xs x4.toNatClampNeg) &&& 15) = 9) → (¬ ((xs x4.toNatClampNeg) &&& 15) = 10) → (¬ ((xs x4.toNatClampNeg) &&& 15) = 11) → (((xs x4.toNatClampNeg) &&& 15) = 12) → vp_in (x4 + 1) L) (k61 : (¬ (((nI L) - 5) < x4)) → (¬ ((xs x4.toNatClampNeg) &&& 15) = 0) → (¬ ((xs x4.toNatClampNeg) &&& 15) = 1) → (¬ ((xs x4.toNatClampNeg) &&& 15) = 2) → (¬ ((xs x4.toNatClampNeg) &&& 15) = 3) → (¬ ((xs x4.toNatClampNeg) &&& 15) = 4) → (¬ ((xs x4.toNatClampNeg) &&& 15) = 5) → (¬ ((xs x4.toNatClampNeg) &&& 15) = 6) → (¬ ((xs x4.toNatClampNeg) &&& 15) = 7) → (¬ ((xs x4.toNatClampNeg) &&& 15) = 8) → (¬ ((xs x4.toNatClampNeg) &&& 15) = 9) → (¬ ((xs x4.toNatClampNeg) &&& 15) = 10) → (¬ ((xs x4.toNatClampNeg) &&& 15) = 11) → (((xs x4.toNatClampNeg) &&& 15) = 12) → ks_W L xs mL_law rm_L_law 1014 [(0, .ref ka_S), (1, .ref 0), (2, .ref 17), (3, .ref 29), (4, .int x4)] [.ref 29, .int (xs (x4 + 1).toNatClampNeg), .ref 0] σ mc ms P) (v63 : (¬ (((nI L) - 5) < x4)) → (¬ ((xs x4.toNatClampNeg) &&& 15) = 0) → (¬ ((xs x4.toNatClampNeg) &&& 15) = 1) → (¬ ((xs x4.toNatClampNeg) &&& 15) = 2) → (¬ ((xs x4.toNatClampNeg) &&& 15) = 3) → (¬ ((xs x4.toNatClampNeg) &&& 15) = 4) → (¬ ((xs x4.toNatClampNeg) &&& 15) = 5) → (¬ ((xs x4.toNatClampNeg) &&& 15) = 6) → (¬ ((xs x4.toNatClampNeg) &&& 15) = 7) → (¬ ((xs x4.toNatClampNeg) &&& 15) = 8) → (¬ ((xs x4.toNatClampNeg) &&& 15) = 9) → (¬ ((xs x4.toNatClampNeg) &&& 15) = 10) → (¬ ((xs x4.toNatClampNeg) &&& 15) = 11) → (¬ ((xs x4.toNatClampNeg) &&& 15) = 12) → (((xs x4.toNatClampNeg) &&& 15) = 13) → vp_in (x4 + 1) L) (k64 : (¬ (((nI L) - 5) < x4)) → (¬ ((xs x4.toNatClampNeg) &&& 15) = 0) → (¬ ((xs x4.toNatClampNeg) &&& 15) = 1) → (¬ ((xs x4.toNatClampNeg) &&& 15) = 2) → (¬ ((xs x4.toNatClampNeg) &&& 15) = 3) → (¬ ((xs x4.toNatClampNeg) &&& 15) = 4) → (¬ ((xs x4.toNatClampNeg) &&& 15) = 5) → (¬ ((xs x4.toNatClampNeg) &&& 15) = 6) → (¬ ((xs x4.toNatClampNeg) &&& 15) = 7) → (¬ ((xs x4.toNatClampNeg) &&& 15) = 8) → (¬ ((xs x4.toNatClampNeg) &&& 15) = 9) → (¬ ((xs x4.toNatClampNeg) &&& 15) = 10) → (¬ ((xs x4.toNatClampNeg) &&& 15) = 11) → (¬ ((xs x4.toNatClampNeg) &&& 15) = 12) → (((xs x4.toNatClampNeg) &&& 15) = 13) → ks_W L xs mL_law rm_L_law 1070 [(0, .ref ka_S), (1, .ref 0), (2, .ref 17), (3, .ref 29), (4, .int x4)] [.ref 29, .int (xs (x4 + 1).toNatClampNeg), .ref 0] σ mc ms P) (k65 : (¬ (((nI L) - 5) < x4)) → (¬ ((xs x4.toNatClampNeg) &&& 15) = 0) → (¬ ((xs x4.toNatClampNeg) &&& 15) = 1) → (¬ ((xs x4.toNatClampNeg) &&& 15) = 2) → (¬ ((xs x4.toNatClampNeg) &&& 15) = 3) → (¬ ((xs x4.toNatClampNeg) &&& 15) = 4) → (¬ ((xs x4.toNatClampNeg) &&& 15) = 5) → (¬ ((xs x4.toNatClampNeg) &&& 15) = 6) → (¬ ((xs x4.toNatClampNeg) &&& 15) = 7) → (¬ ((xs x4.toNatClampNeg) &&& 15) = 8) → (¬ ((xs x4.toNatClampNeg) &&& 15) = 9) → (¬ ((xs x4.toNatClampNeg) &&& 15) = 10) → (¬ ((xs x4.toNatClampNeg) &&& 15) = 11) → (¬ ((xs x4.toNatClampNeg) &&& 15) = 12) → (¬ ((xs x4.toNatClampNeg) &&& 15) = 13) → ks_W L xs mL_law rm_L_law 1118 [(0, .ref ka_S), (1, .ref 0), (2, .ref 17), (3, .ref 29), (4, .int x4)] [] σ mc ms P) : ks_W L xs mL_law rm_L_law 33 [(0, .ref ka_S), (1, .ref 0), (2, .ref 17), (3, .ref 29), (4, .int x4)] [] σ mc ms P := by
  refine ka_iload d_L_law_33 rfl 4 rfl ?_
  refine ka_aload_n d_L_law_35 rfl rfl 0 rfl ?_
  refine ka_slen d_L_law_36 rfl ?_
  refine ka_iconst (v := 5) d_L_law_37 rfl (by decide) ?_
  refine ka_isub d_L_law_38 rfl ?_
  refine ka_icmp_gt (tgt := 1124) d_L_law_39 (by decide) rfl (fun c1 => ?_) (fun c1 => ?_)
  · refine ka_iconst (v := 1) d_L_law_1124 rfl (by decide) ?_
    exact ks_iret (ty := .boolean) d_L_law_1125 rfl rfl (r2 c1)
  · refine ka_aload_n d_L_law_42 rfl rfl 0 rfl ?_
    refine ka_iload d_L_law_43 rfl 4 rfl ?_
    refine ka_sld d_L_law_45 rfl (v3 c1) ?_
    refine ka_bipush (v := 15) d_L_law_46 rfl (by decide) ?_
    refine ka_iand d_L_law_48 rfl ?_
    by_cases c4 : ((xs x4.toNatClampNeg) &&& 15) = 0
    · refine ka_tabIn (q := 120) d_L_law_49 (by rw [c4]; decide) (by rw [c4]; decide) (by rw [c4]; rfl) (by decide) ?_
      refine ka_aload_n d_L_law_120 rfl rfl 1 rfl ?_
      refine ka_aload_n d_L_law_121 rfl rfl 3 rfl ?_
      exact (k5 c1 c4)
    by_cases c6 : ((xs x4.toNatClampNeg) &&& 15) = 1
    · refine ka_tabIn (q := 164) d_L_law_49 (by rw [c6]; decide) (by rw [c6]; decide) (by rw [c6]; rfl) (by decide) ?_
      refine ka_aload_n d_L_law_164 rfl rfl 1 rfl ?_
      refine ka_aload_n d_L_law_165 rfl rfl 0 rfl ?_
      refine ka_iload d_L_law_166 rfl 4 rfl ?_
      refine ka_iconst (v := 1) d_L_law_168 rfl (by decide) ?_
      refine ka_iadd d_L_law_169 rfl ?_
      refine ka_sld d_L_law_170 rfl (v7 c1 c4 c6) ?_
      refine ka_aload_n d_L_law_171 rfl rfl 0 rfl ?_
      refine ka_iload d_L_law_172 rfl 4 rfl ?_
      refine ka_iconst (v := 2) d_L_law_174 rfl (by decide) ?_
      refine ka_iadd d_L_law_175 rfl ?_
      refine ka_sld d_L_law_176 rfl (v8 c1 c4 c6) ?_
      refine ka_aload_n d_L_law_177 rfl rfl 0 rfl ?_
      refine ka_iload d_L_law_178 rfl 4 rfl ?_
      refine ka_iconst (v := 3) d_L_law_180 rfl (by decide) ?_
      refine ka_iadd d_L_law_181 rfl ?_
      refine ka_sld d_L_law_182 rfl (v9 c1 c4 c6) ?_
      refine ka_i2l d_L_law_183 rfl ?_
      refine ka_bipush (v := 32) d_L_law_184 rfl (by decide) ?_
      refine ka_lshl d_L_law_186 rfl ?_
      refine ka_aload_n d_L_law_187 rfl rfl 0 rfl ?_
      refine ka_iload d_L_law_188 rfl 4 rfl ?_
      refine ka_iconst (v := 4) d_L_law_190 rfl (by decide) ?_
      refine ka_iadd d_L_law_191 rfl ?_
      refine ka_sld d_L_law_192 rfl (v10 c1 c4 c6) ?_
      refine ka_i2l d_L_law_193 rfl ?_
      refine ka_ldc2 (v := 4294967295) d_L_law_194 rfl kl_L_84 ?_
      refine ka_land d_L_law_197 rfl ?_
      refine ka_lor d_L_law_198 rfl ?_
      refine ka_aload_n d_L_law_199 rfl rfl 3 rfl ?_
      exact (k11 c1 c4 c6)
    by_cases c12 : ((xs x4.toNatClampNeg) &&& 15) = 2
    · refine ka_tabIn (q := 283) d_L_law_49 (by rw [c12]; decide) (by rw [c12]; decide) (by rw [c12]; rfl) (by decide) ?_
      refine ka_aload_n d_L_law_283 rfl rfl 1 rfl ?_
      refine ka_aload_n d_L_law_284 rfl rfl 0 rfl ?_
      refine ka_iload d_L_law_285 rfl 4 rfl ?_
      refine ka_iconst (v := 1) d_L_law_287 rfl (by decide) ?_
      refine ka_iadd d_L_law_288 rfl ?_
      refine ka_sld d_L_law_289 rfl (v13 c1 c4 c6 c12) ?_
      refine ka_aload_n d_L_law_290 rfl rfl 0 rfl ?_
      refine ka_iload d_L_law_291 rfl 4 rfl ?_
      refine ka_iconst (v := 2) d_L_law_293 rfl (by decide) ?_
      refine ka_iadd d_L_law_294 rfl ?_
      refine ka_sld d_L_law_295 rfl (v14 c1 c4 c6 c12) ?_
      refine ka_aload_n d_L_law_296 rfl rfl 0 rfl ?_
      refine ka_iload d_L_law_297 rfl 4 rfl ?_
      refine ka_iconst (v := 3) d_L_law_299 rfl (by decide) ?_
      refine ka_iadd d_L_law_300 rfl ?_
      refine ka_sld d_L_law_301 rfl (v15 c1 c4 c6 c12) ?_
      refine ka_aload_n d_L_law_302 rfl rfl 3 rfl ?_
      exact (k16 c1 c4 c6 c12)
    by_cases c17 : ((xs x4.toNatClampNeg) &&& 15) = 3
    · refine ka_tabIn (q := 363) d_L_law_49 (by rw [c17]; decide) (by rw [c17]; decide) (by rw [c17]; rfl) (by decide) ?_
      refine ka_aload_n d_L_law_363 rfl rfl 1 rfl ?_
      refine ka_aload_n d_L_law_364 rfl rfl 0 rfl ?_
      refine ka_iload d_L_law_365 rfl 4 rfl ?_
      refine ka_iconst (v := 1) d_L_law_367 rfl (by decide) ?_
      refine ka_iadd d_L_law_368 rfl ?_
      refine ka_sld d_L_law_369 rfl (v18 c1 c4 c6 c12 c17) ?_
      refine ka_aload_n d_L_law_370 rfl rfl 3 rfl ?_
      exact (k19 c1 c4 c6 c12 c17)
    by_cases c20 : ((xs x4.toNatClampNeg) &&& 15) = 4
    · refine ka_tabIn (q := 419) d_L_law_49 (by rw [c20]; decide) (by rw [c20]; decide) (by rw [c20]; rfl) (by decide) ?_
      refine ka_aload_n d_L_law_419 rfl rfl 1 rfl ?_
      refine ka_aload_n d_L_law_420 rfl rfl 0 rfl ?_
      refine ka_iload d_L_law_421 rfl 4 rfl ?_
      refine ka_iconst (v := 1) d_L_law_423 rfl (by decide) ?_
      refine ka_iadd d_L_law_424 rfl ?_
      refine ka_sld d_L_law_425 rfl (v21 c1 c4 c6 c12 c17 c20) ?_
      refine ka_aload_n d_L_law_426 rfl rfl 0 rfl ?_
      refine ka_iload d_L_law_427 rfl 4 rfl ?_
      refine ka_iconst (v := 2) d_L_law_429 rfl (by decide) ?_
      refine ka_iadd d_L_law_430 rfl ?_
      refine ka_sld d_L_law_431 rfl (v22 c1 c4 c6 c12 c17 c20) ?_
      refine ka_aload_n d_L_law_432 rfl rfl 0 rfl ?_
      refine ka_iload d_L_law_433 rfl 4 rfl ?_
      refine ka_iconst (v := 3) d_L_law_435 rfl (by decide) ?_
      refine ka_iadd d_L_law_436 rfl ?_
      refine ka_sld d_L_law_437 rfl (v23 c1 c4 c6 c12 c17 c20) ?_
      refine ka_aload_n d_L_law_438 rfl rfl 3 rfl ?_
      exact (k24 c1 c4 c6 c12 c17 c20)
    by_cases c25 : ((xs x4.toNatClampNeg) &&& 15) = 5
    · refine ka_tabIn (q := 499) d_L_law_49 (by rw [c25]; decide) (by rw [c25]; decide) (by rw [c25]; rfl) (by decide) ?_
      refine ka_aload_n d_L_law_499 rfl rfl 1 rfl ?_
      refine ka_aload_n d_L_law_500 rfl rfl 0 rfl ?_
      refine ka_iload d_L_law_501 rfl 4 rfl ?_
      refine ka_iconst (v := 1) d_L_law_503 rfl (by decide) ?_
      refine ka_iadd d_L_law_504 rfl ?_
      refine ka_sld d_L_law_505 rfl (v26 c1 c4 c6 c12 c17 c20 c25) ?_
      refine ka_aload_n d_L_law_506 rfl rfl 0 rfl ?_
      refine ka_iload d_L_law_507 rfl 4 rfl ?_
      refine ka_iconst (v := 2) d_L_law_509 rfl (by decide) ?_
      refine ka_iadd d_L_law_510 rfl ?_
      refine ka_sld d_L_law_511 rfl (v27 c1 c4 c6 c12 c17 c20 c25) ?_
      refine ka_aload_n d_L_law_512 rfl rfl 3 rfl ?_
      exact (k28 c1 c4 c6 c12 c17 c20 c25)
    by_cases c29 : ((xs x4.toNatClampNeg) &&& 15) = 6
    · refine ka_tabIn (q := 567) d_L_law_49 (by rw [c29]; decide) (by rw [c29]; decide) (by rw [c29]; rfl) (by decide) ?_
      refine ka_aload_n d_L_law_567 rfl rfl 1 rfl ?_
      refine ka_aload_n d_L_law_568 rfl rfl 0 rfl ?_
      refine ka_iload d_L_law_569 rfl 4 rfl ?_
      refine ka_iconst (v := 1) d_L_law_571 rfl (by decide) ?_
      refine ka_iadd d_L_law_572 rfl ?_
      refine ka_sld d_L_law_573 rfl (v30 c1 c4 c6 c12 c17 c20 c25 c29) ?_
      refine ka_aload_n d_L_law_574 rfl rfl 0 rfl ?_
      refine ka_iload d_L_law_575 rfl 4 rfl ?_
      refine ka_iconst (v := 2) d_L_law_577 rfl (by decide) ?_
      refine ka_iadd d_L_law_578 rfl ?_
      refine ka_sld d_L_law_579 rfl (v31 c1 c4 c6 c12 c17 c20 c25 c29) ?_
      refine ka_aload_n d_L_law_580 rfl rfl 0 rfl ?_
      refine ka_iload d_L_law_581 rfl 4 rfl ?_
      refine ka_iconst (v := 3) d_L_law_583 rfl (by decide) ?_
      refine ka_iadd d_L_law_584 rfl ?_
      refine ka_sld d_L_law_585 rfl (v32 c1 c4 c6 c12 c17 c20 c25 c29) ?_
      refine ka_if_eq (tgt := 593) d_L_law_586 (by decide) rfl (fun c33 => ?_) (fun c33 => ?_)
      · refine ka_iconst (v := 0) d_L_law_593 rfl (by decide) ?_
        exact (k34 c1 c4 c6 c12 c17 c20 c25 c29 c33)
      · refine ka_iconst (v := 1) d_L_law_589 rfl (by decide) ?_
        refine ka_goto (q := 594) d_L_law_590 (by decide) ?_
        exact (k35 c1 c4 c6 c12 c17 c20 c25 c29 c33)
    by_cases c36 : ((xs x4.toNatClampNeg) &&& 15) = 7
    · refine ka_tabIn (q := 663) d_L_law_49 (by rw [c36]; decide) (by rw [c36]; decide) (by rw [c36]; rfl) (by decide) ?_
      refine ka_aload_n d_L_law_663 rfl rfl 1 rfl ?_
      refine ka_aload_n d_L_law_664 rfl rfl 0 rfl ?_
      refine ka_iload d_L_law_665 rfl 4 rfl ?_
      refine ka_iconst (v := 1) d_L_law_667 rfl (by decide) ?_
      refine ka_iadd d_L_law_668 rfl ?_
      refine ka_sld d_L_law_669 rfl (v37 c1 c4 c6 c12 c17 c20 c25 c29 c36) ?_
      refine ka_aload_n d_L_law_670 rfl rfl 0 rfl ?_
      refine ka_iload d_L_law_671 rfl 4 rfl ?_
      refine ka_iconst (v := 2) d_L_law_673 rfl (by decide) ?_
      refine ka_iadd d_L_law_674 rfl ?_
      refine ka_sld d_L_law_675 rfl (v38 c1 c4 c6 c12 c17 c20 c25 c29 c36) ?_
      refine ka_aload_n d_L_law_676 rfl rfl 0 rfl ?_
      refine ka_iload d_L_law_677 rfl 4 rfl ?_
      refine ka_iconst (v := 3) d_L_law_679 rfl (by decide) ?_
      refine ka_iadd d_L_law_680 rfl ?_
      refine ka_sld d_L_law_681 rfl (v39 c1 c4 c6 c12 c17 c20 c25 c29 c36) ?_
      refine ka_if_eq (tgt := 689) d_L_law_682 (by decide) rfl (fun c40 => ?_) (fun c40 => ?_)
      · refine ka_iconst (v := 0) d_L_law_689 rfl (by decide) ?_
        exact (k41 c1 c4 c6 c12 c17 c20 c25 c29 c36 c40)
      · refine ka_iconst (v := 1) d_L_law_685 rfl (by decide) ?_
        refine ka_goto (q := 690) d_L_law_686 (by decide) ?_
        exact (k42 c1 c4 c6 c12 c17 c20 c25 c29 c36 c40)
    by_cases c43 : ((xs x4.toNatClampNeg) &&& 15) = 8
    · refine ka_tabIn (q := 759) d_L_law_49 (by rw [c43]; decide) (by rw [c43]; decide) (by rw [c43]; rfl) (by decide) ?_
      refine ka_aload_n d_L_law_759 rfl rfl 1 rfl ?_
      refine ka_aload_n d_L_law_760 rfl rfl 0 rfl ?_
      refine ka_iload d_L_law_761 rfl 4 rfl ?_
      refine ka_iconst (v := 1) d_L_law_763 rfl (by decide) ?_
      refine ka_iadd d_L_law_764 rfl ?_
      refine ka_sld d_L_law_765 rfl (v44 c1 c4 c6 c12 c17 c20 c25 c29 c36 c43) ?_
      refine ka_aload_n d_L_law_766 rfl rfl 0 rfl ?_
      refine ka_iload d_L_law_767 rfl 4 rfl ?_
      refine ka_iconst (v := 2) d_L_law_769 rfl (by decide) ?_
      refine ka_iadd d_L_law_770 rfl ?_
      refine ka_sld d_L_law_771 rfl (v45 c1 c4 c6 c12 c17 c20 c25 c29 c36 c43) ?_
      refine ka_aload_n d_L_law_772 rfl rfl 3 rfl ?_
      exact (k46 c1 c4 c6 c12 c17 c20 c25 c29 c36 c43)
    by_cases c47 : ((xs x4.toNatClampNeg) &&& 15) = 9
    · refine ka_tabIn (q := 834) d_L_law_49 (by rw [c47]; decide) (by rw [c47]; decide) (by rw [c47]; rfl) (by decide) ?_
      refine ka_aload_n d_L_law_834 rfl rfl 1 rfl ?_
      refine ka_aload_n d_L_law_835 rfl rfl 0 rfl ?_
      refine ka_iload d_L_law_836 rfl 4 rfl ?_
      refine ka_iconst (v := 1) d_L_law_838 rfl (by decide) ?_
      refine ka_iadd d_L_law_839 rfl ?_
      refine ka_sld d_L_law_840 rfl (v48 c1 c4 c6 c12 c17 c20 c25 c29 c36 c43 c47) ?_
      refine ka_aload_n d_L_law_841 rfl rfl 0 rfl ?_
      refine ka_iload d_L_law_842 rfl 4 rfl ?_
      refine ka_iconst (v := 2) d_L_law_844 rfl (by decide) ?_
      refine ka_iadd d_L_law_845 rfl ?_
      refine ka_sld d_L_law_846 rfl (v49 c1 c4 c6 c12 c17 c20 c25 c29 c36 c43 c47) ?_
      refine ka_aload_n d_L_law_847 rfl rfl 3 rfl ?_
      exact (k50 c1 c4 c6 c12 c17 c20 c25 c29 c36 c43 c47)
    by_cases c51 : ((xs x4.toNatClampNeg) &&& 15) = 10
    · refine ka_tabIn (q := 901) d_L_law_49 (by rw [c51]; decide) (by rw [c51]; decide) (by rw [c51]; rfl) (by decide) ?_
      refine ka_aload_n d_L_law_901 rfl rfl 1 rfl ?_
      refine ka_aload_n d_L_law_902 rfl rfl 0 rfl ?_
      refine ka_iload d_L_law_903 rfl 4 rfl ?_
      refine ka_iconst (v := 1) d_L_law_905 rfl (by decide) ?_
      refine ka_iadd d_L_law_906 rfl ?_
      refine ka_sld d_L_law_907 rfl (v52 c1 c4 c6 c12 c17 c20 c25 c29 c36 c43 c47 c51) ?_
      refine ka_aload_n d_L_law_908 rfl rfl 0 rfl ?_
      refine ka_iload d_L_law_909 rfl 4 rfl ?_
      refine ka_iconst (v := 2) d_L_law_911 rfl (by decide) ?_
      refine ka_iadd d_L_law_912 rfl ?_
      refine ka_sld d_L_law_913 rfl (v53 c1 c4 c6 c12 c17 c20 c25 c29 c36 c43 c47 c51) ?_
      refine ka_aload_n d_L_law_914 rfl rfl 0 rfl ?_
      refine ka_iload d_L_law_915 rfl 4 rfl ?_
      refine ka_iconst (v := 3) d_L_law_917 rfl (by decide) ?_
      refine ka_iadd d_L_law_918 rfl ?_
      refine ka_sld d_L_law_919 rfl (v54 c1 c4 c6 c12 c17 c20 c25 c29 c36 c43 c47 c51) ?_
      refine ka_aload_n d_L_law_920 rfl rfl 0 rfl ?_
      refine ka_iload d_L_law_921 rfl 4 rfl ?_
      refine ka_iconst (v := 4) d_L_law_923 rfl (by decide) ?_
      refine ka_iadd d_L_law_924 rfl ?_
      refine ka_sld d_L_law_925 rfl (v55 c1 c4 c6 c12 c17 c20 c25 c29 c36 c43 c47 c51) ?_
      refine ka_aload_n d_L_law_926 rfl rfl 3 rfl ?_
      exact (k56 c1 c4 c6 c12 c17 c20 c25 c29 c36 c43 c47 c51)
    by_cases c57 : ((xs x4.toNatClampNeg) &&& 15) = 11
    · refine ka_tabIn (q := 993) d_L_law_49 (by rw [c57]; decide) (by rw [c57]; decide) (by rw [c57]; rfl) (by decide) ?_
      refine ka_aload_n d_L_law_993 rfl rfl 1 rfl ?_
      exact (k58 c1 c4 c6 c12 c17 c20 c25 c29 c36 c43 c47 c51 c57)
    by_cases c59 : ((xs x4.toNatClampNeg) &&& 15) = 12
    · refine ka_tabIn (q := 1006) d_L_law_49 (by rw [c59]; decide) (by rw [c59]; decide) (by rw [c59]; rfl) (by decide) ?_
      refine ka_aload_n d_L_law_1006 rfl rfl 1 rfl ?_
      refine ka_aload_n d_L_law_1007 rfl rfl 0 rfl ?_
      refine ka_iload d_L_law_1008 rfl 4 rfl ?_
      refine ka_iconst (v := 1) d_L_law_1010 rfl (by decide) ?_
      refine ka_iadd d_L_law_1011 rfl ?_
      refine ka_sld d_L_law_1012 rfl (v60 c1 c4 c6 c12 c17 c20 c25 c29 c36 c43 c47 c51 c57 c59) ?_
      refine ka_aload_n d_L_law_1013 rfl rfl 3 rfl ?_
      exact (k61 c1 c4 c6 c12 c17 c20 c25 c29 c36 c43 c47 c51 c57 c59)
    by_cases c62 : ((xs x4.toNatClampNeg) &&& 15) = 13
    · refine ka_tabIn (q := 1062) d_L_law_49 (by rw [c62]; decide) (by rw [c62]; decide) (by rw [c62]; rfl) (by decide) ?_
      refine ka_aload_n d_L_law_1062 rfl rfl 1 rfl ?_
      refine ka_aload_n d_L_law_1063 rfl rfl 0 rfl ?_
      refine ka_iload d_L_law_1064 rfl 4 rfl ?_
      refine ka_iconst (v := 1) d_L_law_1066 rfl (by decide) ?_
      refine ka_iadd d_L_law_1067 rfl ?_
      refine ka_sld d_L_law_1068 rfl (v63 c1 c4 c6 c12 c17 c20 c25 c29 c36 c43 c47 c51 c57 c59 c62) ?_
      refine ka_aload_n d_L_law_1069 rfl rfl 3 rfl ?_
      exact (k64 c1 c4 c6 c12 c17 c20 c25 c29 c36 c43 c47 c51 c57 c59 c62)
    refine ka_tabOut (q := 1118) d_L_law_49 (by have nc4 := lv_neT (a := 0) c4 (by decide); have nc6 := lv_neT (a := 1) c6 (by decide); have nc12 := lv_neT (a := 2) c12 (by decide); have nc17 := lv_neT (a := 3) c17 (by decide); have nc20 := lv_neT (a := 4) c20 (by decide); have nc25 := lv_neT (a := 5) c25 (by decide); have nc29 := lv_neT (a := 6) c29 (by decide); have nc36 := lv_neT (a := 7) c36 (by decide); have nc43 := lv_neT (a := 8) c43 (by decide); have nc47 := lv_neT (a := 9) c47 (by decide); have nc51 := lv_neT (a := 10) c51 (by decide); have nc57 := lv_neT (a := 11) c57 (by decide); have nc59 := lv_neT (a := 12) c59 (by decide); have nc62 := lv_neT (a := 13) c62 (by decide); omega) (by decide) ?_
    exact (k65 c1 c4 c6 c12 c17 c20 c25 c29 c36 c43 c47 c51 c57 c59 c62)
theorem cs_L_law_122 {L : Nat} {xs : Nat → Int32} {σ : ks_St} {mc ms : Nat} {P : ka_O → ks_St → Prop} {f : Int32 → ks_St → Prop} {x4 : Int32} (hK : ks_M L xs mL_word rm_L_word [.ref 0, .ref 29] σ (pi_ f)) (kr : ∀ r σ', f r σ' → ks_W L xs mL_law rm_L_law 125 [(0, .ref ka_S), (1, .ref 0), (2, .ref 17), (3, .ref 29), (4, .int x4)] [.int r] σ' mc ms P) : ks_W L xs mL_law rm_L_law 122 [(0, .ref ka_S), (1, .ref 0), (2, .ref 17), (3, .ref 29), (4, .int x4)] [.ref 29, .ref 0] σ (mc + 1) (ms + 6) P := by
  refine ks_callSX (q := 125) (As := [.ref 0, .ref 29]) (st := []) d_L_law_122 rfl rfl lk_L_77 ⟨by decide, by decide⟩ (Nat.le_of_ble_eq_true rfl) ⟨Nat.le_refl _, Nat.le_refl _⟩ hK (fun v σ' hq => ?_) (fun E σ' hq => ?_)
  · obtain ⟨r, e, hf⟩ := hq; cases e; exact kr r σ' hf
  · obtain ⟨r, e, hf⟩ := hq; cases e
theorem sg_L_law_125 {L : Nat} {xs : Nat → Int32} {σ : ks_St} {mc ms : Nat} {P : ka_O → ks_St → Prop} {x4 : Int32} {s0 : Int32}  (k1 : ks_W L xs mL_law rm_L_law 128 [(0, .ref ka_S), (1, .ref 0), (2, .ref 17), (3, .ref 29), (4, .int x4), (5, .int s0)] [.ref 17] σ mc ms P) : ks_W L xs mL_law rm_L_law 125 [(0, .ref ka_S), (1, .ref 0), (2, .ref 17), (3, .ref 29), (4, .int x4)] [.int s0] σ mc ms P := by
  refine ka_istore (ls' := [(5, .int s0), (0, .ref ka_S), (1, .ref 0), (2, .ref 17), (3, .ref 29), (4, .int x4)]) d_L_law_125 rfl (by decide) rfl ?_
  refine ka_aload_n d_L_law_127 rfl rfl 3 rfl ?_
  refine ka_sub [1, 2, 3, 4, 5, 0] rfl ?_
  exact k1
theorem cs_L_law_128 {L : Nat} {xs : Nat → Int32} {σ : ks_St} {mc ms : Nat} {P : ka_O → ks_St → Prop} {f : Int32 → ks_St → Prop} {x4 : Int32} {x5 : Int32} (hK : ks_M L xs mX5_word rm_X5_word [.ref 17] σ (pi_ f)) (kr : ∀ r σ', f r σ' → ks_W L xs mL_law rm_L_law 131 [(0, .ref ka_S), (1, .ref 0), (2, .ref 17), (3, .ref 29), (4, .int x4), (5, .int x5)] [.int r] σ' mc ms P) : ks_W L xs mL_law rm_L_law 128 [(0, .ref ka_S), (1, .ref 0), (2, .ref 17), (3, .ref 29), (4, .int x4), (5, .int x5)] [.ref 17] σ mc ms P := by
  refine ks_callV (q := 131) (o := 17) (ci := 5) (As := []) (st := []) d_L_law_128 rfl rfl (by decide) rfl rfl lk_L_80 ⟨by decide, by decide⟩ (Nat.le_of_ble_eq_true rfl) ⟨Nat.le_refl _, Nat.le_refl _⟩ hK (fun v σ' hq => ?_) (fun E σ' hq => ?_)
  · obtain ⟨r, e, hf⟩ := hq; cases e; exact kr r σ' hf
  · obtain ⟨r, e, hf⟩ := hq; cases e
theorem sg_L_law_131 {L : Nat} {xs : Nat → Int32} {σ : ks_St} {mc ms : Nat} {P : ka_O → ks_St → Prop} {x4 : Int32} {x5 : Int32} {s0 : Int32}  (k1 : ks_W L xs mL_law rm_L_law 134 [(0, .ref ka_S), (1, .ref 0), (2, .ref 17), (3, .ref 29), (4, .int x4), (5, .int x5), (6, .int s0)] [.ref 17] σ mc ms P) : ks_W L xs mL_law rm_L_law 131 [(0, .ref ka_S), (1, .ref 0), (2, .ref 17), (3, .ref 29), (4, .int x4), (5, .int x5)] [.int s0] σ mc ms P := by
  refine ka_istore (ls' := [(6, .int s0), (0, .ref ka_S), (1, .ref 0), (2, .ref 17), (3, .ref 29), (4, .int x4), (5, .int x5)]) d_L_law_131 rfl (by decide) rfl ?_
  refine ka_aload_n d_L_law_133 rfl rfl 3 rfl ?_
  refine ka_sub [1, 2, 3, 4, 5, 6, 0] rfl ?_
  exact k1
theorem cs_L_law_134 {L : Nat} {xs : Nat → Int32} {σ : ks_St} {mc ms : Nat} {P : ka_O → ks_St → Prop} {f : Int32 → ks_St → Prop} {x4 : Int32} {x5 : Int32} {x6 : Int32} (hK : ks_M L xs mX5_thrown rm_X5_thrown [.ref 17] σ (pi_ f)) (kr : ∀ r σ', f r σ' → ks_W L xs mL_law rm_L_law 137 [(0, .ref ka_S), (1, .ref 0), (2, .ref 17), (3, .ref 29), (4, .int x4), (5, .int x5), (6, .int x6)] [.int r] σ' mc ms P) : ks_W L xs mL_law rm_L_law 134 [(0, .ref ka_S), (1, .ref 0), (2, .ref 17), (3, .ref 29), (4, .int x4), (5, .int x5), (6, .int x6)] [.ref 17] σ mc ms P := by
  refine ks_callV (q := 137) (o := 17) (ci := 5) (As := []) (st := []) d_L_law_134 rfl rfl (by decide) rfl rfl lk_L_81 ⟨by decide, by decide⟩ (Nat.le_of_ble_eq_true rfl) ⟨Nat.le_refl _, Nat.le_refl _⟩ hK (fun v σ' hq => ?_) (fun E σ' hq => ?_)
  · obtain ⟨r, e, hf⟩ := hq; cases e; exact kr r σ' hf
  · obtain ⟨r, e, hf⟩ := hq; cases e
theorem sg_L_law_137 {L : Nat} {xs : Nat → Int32} {σ : ks_St} {mc ms : Nat} {P : ka_O → ks_St → Prop} {x4 : Int32} {x5 : Int32} {x6 : Int32} {s0 : Int32}  (k3 : (s0 = x5) → (¬ x5 = 0) → ks_W L xs mL_law rm_L_law 161 [(0, .ref ka_S), (1, .ref 0), (2, .ref 17), (3, .ref 29), (4, .int x4)] [] σ mc ms P) (k5 : (s0 = x5) → (x5 = 0) → ((lg_cmp (sg_ σ 29 (0 : Int32).toNatClampNeg) (x6.toInt64)) = 0) → ks_W L xs mL_law rm_L_law 161 [(0, .ref ka_S), (1, .ref 0), (2, .ref 17), (3, .ref 29), (4, .int x4)] [] σ mc ms P) (r6 : (s0 = x5) → (x5 = 0) → (¬ ((lg_cmp (sg_ σ 29 (0 : Int32).toNatClampNeg) (x6.toInt64)) = 0)) → P (.inl (some (.int 0))) σ) (r7 : (¬ (s0 = x5)) → P (.inl (some (.int 0))) σ) : ks_W L xs mL_law rm_L_law 137 [(0, .ref ka_S), (1, .ref 0), (2, .ref 17), (3, .ref 29), (4, .int x4), (5, .int x5), (6, .int x6)] [.int s0] σ mc ms P := by
  refine ka_iload d_L_law_137 rfl 5 rfl ?_
  refine ka_icmp_eq (tgt := 144) d_L_law_139 (by decide) rfl (fun c1 => ?_) (fun c1 => ?_)
  · refine ka_iload d_L_law_144 rfl 5 rfl ?_
    refine ka_if_ne (tgt := 161) d_L_law_146 (by decide) rfl (fun c2 => ?_) (fun c2 => ?_)
    · refine ka_sub [0, 1, 2, 3, 4] rfl ?_
      exact (k3 c1 c2)
    · refine ka_aload_n d_L_law_149 rfl rfl 3 rfl ?_
      refine ka_iconst (v := 0) d_L_law_150 rfl (by decide) ?_
      refine ks_lald row_29 d_L_law_151 rfl (by unfold vp_in; decide) ?_
      refine ka_iload d_L_law_152 rfl 6 rfl ?_
      refine ka_i2l d_L_law_154 rfl ?_
      refine ka_lcmp d_L_law_155 rfl ?_
      refine ka_if_eq (tgt := 161) d_L_law_156 (by decide) rfl (fun c4 => ?_) (fun c4 => ?_)
      · refine ka_sub [0, 1, 2, 3, 4] rfl ?_
        exact (k5 c1 c2 c4)
      · refine ka_iconst (v := 0) d_L_law_159 rfl (by decide) ?_
        exact ks_iret (ty := .boolean) d_L_law_160 rfl rfl (r6 c1 c2 c4)
  · refine ka_iconst (v := 0) d_L_law_142 rfl (by decide) ?_
    exact ks_iret (ty := .boolean) d_L_law_143 rfl rfl (r7 c1)
theorem sg_L_law_161 {L : Nat} {xs : Nat → Int32} {σ : ks_St} {mc ms : Nat} {P : ka_O → ks_St → Prop} {x4 : Int32}  (k1 : ks_W L xs mL_law rm_L_law 1118 [(0, .ref ka_S), (1, .ref 0), (2, .ref 17), (3, .ref 29), (4, .int x4)] [] σ mc ms P) : ks_W L xs mL_law rm_L_law 161 [(0, .ref ka_S), (1, .ref 0), (2, .ref 17), (3, .ref 29), (4, .int x4)] [] σ mc ms P := by
  refine ka_goto (q := 1118) d_L_law_161 (by decide) ?_
  exact k1
theorem cs_L_law_200 {L : Nat} {xs : Nat → Int32} {σ : ks_St} {mc ms : Nat} {P : ka_O → ks_St → Prop} {f : Int32 → ks_St → Prop} {x4 : Int32} {s1 : Int32} {s2 : Int32} {s3 : Int64} (hK : ks_M L xs mL_set rm_L_set [.ref 0, .int s1, .int s2, .long s3, .ref 29] σ (pi_ f)) (kr : ∀ r σ', f r σ' → ks_W L xs mL_law rm_L_law 203 [(0, .ref ka_S), (1, .ref 0), (2, .ref 17), (3, .ref 29), (4, .int x4)] [.int r] σ' mc ms P) : ks_W L xs mL_law rm_L_law 200 [(0, .ref ka_S), (1, .ref 0), (2, .ref 17), (3, .ref 29), (4, .int x4)] [.ref 29, .long s3, .int s2, .int s1, .ref 0] σ (mc + 2) (ms + 12) P := by
  refine ks_callSX (q := 203) (As := [.ref 0, .int s1, .int s2, .long s3, .ref 29]) (st := []) d_L_law_200 rfl rfl lk_L_86 ⟨by decide, by decide⟩ (Nat.le_of_ble_eq_true rfl) ⟨Nat.le_refl _, Nat.le_refl _⟩ hK (fun v σ' hq => ?_) (fun E σ' hq => ?_)
  · obtain ⟨r, e, hf⟩ := hq; cases e; exact kr r σ' hf
  · obtain ⟨r, e, hf⟩ := hq; cases e
theorem sg_L_law_203 {L : Nat} {xs : Nat → Int32} {σ : ks_St} {mc ms : Nat} {P : ka_O → ks_St → Prop} {x4 : Int32} {s0 : Int32}  (v1 : vp_in (x4 + 1) L) (v2 : vp_in (x4 + 2) L) (v3 : vp_in (x4 + 3) L) (v4 : vp_in (x4 + 4) L) (k5 : ks_W L xs mL_law rm_L_law 240 [(0, .ref ka_S), (1, .ref 0), (2, .ref 17), (3, .ref 29), (4, .int x4), (5, .int s0)] [.long ((((xs (x4 + 3).toNatClampNeg).toInt64) <<< (((32 : Int32)).toInt64 &&& 63)) ||| (((xs (x4 + 4).toNatClampNeg).toInt64) &&& 4294967295)), .int (xs (x4 + 2).toNatClampNeg), .int (xs (x4 + 1).toNatClampNeg), .ref 17] σ mc ms P) : ks_W L xs mL_law rm_L_law 203 [(0, .ref ka_S), (1, .ref 0), (2, .ref 17), (3, .ref 29), (4, .int x4)] [.int s0] σ mc ms P := by
  refine ka_istore (ls' := [(5, .int s0), (0, .ref ka_S), (1, .ref 0), (2, .ref 17), (3, .ref 29), (4, .int x4)]) d_L_law_203 rfl (by decide) rfl ?_
  refine ka_aload_n d_L_law_205 rfl rfl 3 rfl ?_
  refine ka_aload_n d_L_law_206 rfl rfl 1 rfl ?_
  refine ka_iload d_L_law_207 rfl 5 rfl ?_
  refine ka_iconst (v := 1) d_L_law_209 rfl (by decide) ?_
  refine ka_iadd d_L_law_210 rfl ?_
  refine ka_sld d_L_law_211 rfl v1 ?_
  refine ka_aload_n d_L_law_212 rfl rfl 1 rfl ?_
  refine ka_iload d_L_law_213 rfl 5 rfl ?_
  refine ka_iconst (v := 2) d_L_law_215 rfl (by decide) ?_
  refine ka_iadd d_L_law_216 rfl ?_
  refine ka_sld d_L_law_217 rfl v2 ?_
  refine ka_aload_n d_L_law_218 rfl rfl 1 rfl ?_
  refine ka_iload d_L_law_219 rfl 5 rfl ?_
  refine ka_iconst (v := 3) d_L_law_221 rfl (by decide) ?_
  refine ka_iadd d_L_law_222 rfl ?_
  refine ka_sld d_L_law_223 rfl v3 ?_
  refine ka_i2l d_L_law_224 rfl ?_
  refine ka_bipush (v := 32) d_L_law_225 rfl (by decide) ?_
  refine ka_lshl d_L_law_227 rfl ?_
  refine ka_aload_n d_L_law_228 rfl rfl 1 rfl ?_
  refine ka_iload d_L_law_229 rfl 5 rfl ?_
  refine ka_iconst (v := 4) d_L_law_231 rfl (by decide) ?_
  refine ka_iadd d_L_law_232 rfl ?_
  refine ka_sld d_L_law_233 rfl v4 ?_
  refine ka_i2l d_L_law_234 rfl ?_
  refine ka_ldc2 (v := 4294967295) d_L_law_235 rfl kl_L_84 ?_
  refine ka_land d_L_law_238 rfl ?_
  refine ka_lor d_L_law_239 rfl ?_
  refine ka_sub [1, 2, 3, 4, 5, 0] rfl ?_
  exact k5
theorem cs_L_law_240 {L : Nat} {xs : Nat → Int32} {σ : ks_St} {mc ms : Nat} {P : ka_O → ks_St → Prop} {f : Int32 → ks_St → Prop} {x4 : Int32} {x5 : Int32} {s1 : Int32} {s2 : Int32} {s3 : Int64} (hK : ks_M L xs mX5_set rm_X5_set [.ref 17, .int s1, .int s2, .long s3] σ (pi_ f)) (kr : ∀ r σ', f r σ' → ks_W L xs mL_law rm_L_law 243 [(0, .ref ka_S), (1, .ref 0), (2, .ref 17), (3, .ref 29), (4, .int x4), (5, .int x5)] [.int r] σ' mc ms P) : ks_W L xs mL_law rm_L_law 240 [(0, .ref ka_S), (1, .ref 0), (2, .ref 17), (3, .ref 29), (4, .int x4), (5, .int x5)] [.long s3, .int s2, .int s1, .ref 17] σ mc ms P := by
  refine ks_callV (q := 243) (o := 17) (ci := 5) (As := [.int s1, .int s2, .long s3]) (st := []) d_L_law_240 rfl rfl (by decide) rfl rfl lk_L_89 ⟨by decide, by decide⟩ (Nat.le_of_ble_eq_true rfl) ⟨Nat.le_refl _, Nat.le_refl _⟩ hK (fun v σ' hq => ?_) (fun E σ' hq => ?_)
  · obtain ⟨r, e, hf⟩ := hq; cases e; exact kr r σ' hf
  · obtain ⟨r, e, hf⟩ := hq; cases e
theorem sg_L_law_243 {L : Nat} {xs : Nat → Int32} {σ : ks_St} {mc ms : Nat} {P : ka_O → ks_St → Prop} {x4 : Int32} {x5 : Int32} {s0 : Int32}  (k1 : ks_W L xs mL_law rm_L_law 246 [(0, .ref ka_S), (1, .ref 0), (2, .ref 17), (3, .ref 29), (4, .int x4), (5, .int x5), (6, .int s0)] [.ref 17] σ mc ms P) : ks_W L xs mL_law rm_L_law 243 [(0, .ref ka_S), (1, .ref 0), (2, .ref 17), (3, .ref 29), (4, .int x4), (5, .int x5)] [.int s0] σ mc ms P := by
  refine ka_istore (ls' := [(6, .int s0), (0, .ref ka_S), (1, .ref 0), (2, .ref 17), (3, .ref 29), (4, .int x4), (5, .int x5)]) d_L_law_243 rfl (by decide) rfl ?_
  refine ka_aload_n d_L_law_245 rfl rfl 3 rfl ?_
  refine ka_sub [1, 2, 3, 4, 5, 6, 0] rfl ?_
  exact k1
theorem cs_L_law_246 {L : Nat} {xs : Nat → Int32} {σ : ks_St} {mc ms : Nat} {P : ka_O → ks_St → Prop} {f : Int32 → ks_St → Prop} {x4 : Int32} {x5 : Int32} {x6 : Int32} (hK : ks_M L xs mX5_thrown rm_X5_thrown [.ref 17] σ (pi_ f)) (kr : ∀ r σ', f r σ' → ks_W L xs mL_law rm_L_law 249 [(0, .ref ka_S), (1, .ref 0), (2, .ref 17), (3, .ref 29), (4, .int x4), (5, .int x5), (6, .int x6)] [.int r] σ' mc ms P) : ks_W L xs mL_law rm_L_law 246 [(0, .ref ka_S), (1, .ref 0), (2, .ref 17), (3, .ref 29), (4, .int x4), (5, .int x5), (6, .int x6)] [.ref 17] σ mc ms P := by
  refine ks_callV (q := 249) (o := 17) (ci := 5) (As := []) (st := []) d_L_law_246 rfl rfl (by decide) rfl rfl lk_L_81 ⟨by decide, by decide⟩ (Nat.le_of_ble_eq_true rfl) ⟨Nat.le_refl _, Nat.le_refl _⟩ hK (fun v σ' hq => ?_) (fun E σ' hq => ?_)
  · obtain ⟨r, e, hf⟩ := hq; cases e; exact kr r σ' hf
  · obtain ⟨r, e, hf⟩ := hq; cases e
theorem sg_L_law_249 {L : Nat} {xs : Nat → Int32} {σ : ks_St} {mc ms : Nat} {P : ka_O → ks_St → Prop} {x4 : Int32} {x5 : Int32} {x6 : Int32} {s0 : Int32}  (k3 : (s0 = x5) → (¬ x5 = 0) → ks_W L xs mL_law rm_L_law 280 [(0, .ref ka_S), (1, .ref 0), (2, .ref 17), (3, .ref 29), (4, .int x4)] [] σ mc ms P) (k5 : (s0 = x5) → (x5 = 0) → (x6 = 0) → ks_W L xs mL_law rm_L_law 274 [(0, .ref ka_S), (1, .ref 0), (2, .ref 17), (3, .ref 29), (4, .int x4)] [.long 0, .long (sg_ σ 29 (0 : Int32).toNatClampNeg)] σ mc ms P) (k6 : (s0 = x5) → (x5 = 0) → (¬ (x6 = 0)) → ks_W L xs mL_law rm_L_law 274 [(0, .ref ka_S), (1, .ref 0), (2, .ref 17), (3, .ref 29), (4, .int x4)] [.long 1, .long (sg_ σ 29 (0 : Int32).toNatClampNeg)] σ mc ms P) (r7 : (¬ (s0 = x5)) → P (.inl (some (.int 0))) σ) : ks_W L xs mL_law rm_L_law 249 [(0, .ref ka_S), (1, .ref 0), (2, .ref 17), (3, .ref 29), (4, .int x4), (5, .int x5), (6, .int x6)] [.int s0] σ mc ms P := by
  refine ka_iload d_L_law_249 rfl 5 rfl ?_
  refine ka_icmp_eq (tgt := 256) d_L_law_251 (by decide) rfl (fun c1 => ?_) (fun c1 => ?_)
  · refine ka_iload d_L_law_256 rfl 5 rfl ?_
    refine ka_if_ne (tgt := 280) d_L_law_258 (by decide) rfl (fun c2 => ?_) (fun c2 => ?_)
    · refine ka_sub [0, 1, 2, 3, 4] rfl ?_
      exact (k3 c1 c2)
    · refine ka_aload_n d_L_law_261 rfl rfl 3 rfl ?_
      refine ka_iconst (v := 0) d_L_law_262 rfl (by decide) ?_
      refine ks_lald row_29 d_L_law_263 rfl (by unfold vp_in; decide) ?_
      refine ka_iload d_L_law_264 rfl 6 rfl ?_
      refine ka_if_eq (tgt := 273) d_L_law_266 (by decide) rfl (fun c4 => ?_) (fun c4 => ?_)
      · refine ka_lconst (v := 0) d_L_law_273 rfl (by decide) ?_
        refine ka_sub [0, 1, 2, 3, 4] rfl ?_
        exact (k5 c1 c2 c4)
      · refine ka_lconst (v := 1) d_L_law_269 rfl (by decide) ?_
        refine ka_goto (q := 274) d_L_law_270 (by decide) ?_
        refine ka_sub [0, 1, 2, 3, 4] rfl ?_
        exact (k6 c1 c2 c4)
  · refine ka_iconst (v := 0) d_L_law_254 rfl (by decide) ?_
    exact ks_iret (ty := .boolean) d_L_law_255 rfl rfl (r7 c1)
theorem sg_L_law_274 {L : Nat} {xs : Nat → Int32} {σ : ks_St} {mc ms : Nat} {P : ka_O → ks_St → Prop} {x4 : Int32} {s0 : Int64} {s1 : Int64}  (k2 : ((lg_cmp s0 s1) = 0) → ks_W L xs mL_law rm_L_law 280 [(0, .ref ka_S), (1, .ref 0), (2, .ref 17), (3, .ref 29), (4, .int x4)] [] σ mc ms P) (r3 : (¬ ((lg_cmp s0 s1) = 0)) → P (.inl (some (.int 0))) σ) : ks_W L xs mL_law rm_L_law 274 [(0, .ref ka_S), (1, .ref 0), (2, .ref 17), (3, .ref 29), (4, .int x4)] [.long s1, .long s0] σ mc ms P := by
  refine ka_lcmp d_L_law_274 rfl ?_
  refine ka_if_eq (tgt := 280) d_L_law_275 (by decide) rfl (fun c1 => ?_) (fun c1 => ?_)
  · exact (k2 c1)
  · refine ka_iconst (v := 0) d_L_law_278 rfl (by decide) ?_
    exact ks_iret (ty := .boolean) d_L_law_279 rfl rfl (r3 c1)
theorem sg_L_law_280 {L : Nat} {xs : Nat → Int32} {σ : ks_St} {mc ms : Nat} {P : ka_O → ks_St → Prop} {x4 : Int32}  (k1 : ks_W L xs mL_law rm_L_law 1118 [(0, .ref ka_S), (1, .ref 0), (2, .ref 17), (3, .ref 29), (4, .int x4)] [] σ mc ms P) : ks_W L xs mL_law rm_L_law 280 [(0, .ref ka_S), (1, .ref 0), (2, .ref 17), (3, .ref 29), (4, .int x4)] [] σ mc ms P := by
  refine ka_goto (q := 1118) d_L_law_280 (by decide) ?_
  exact k1
theorem cs_L_law_303 {L : Nat} {xs : Nat → Int32} {σ : ks_St} {mc ms : Nat} {P : ka_O → ks_St → Prop} {f : Int32 → ks_St → Prop} {x4 : Int32} {s1 : Int32} {s2 : Int32} {s3 : Int32} (hK : ks_M L xs mL_op rm_L_op [.ref 0, .int s1, .int s2, .int s3, .ref 29] σ (pi_ f)) (kr : ∀ r σ', f r σ' → ks_W L xs mL_law rm_L_law 306 [(0, .ref ka_S), (1, .ref 0), (2, .ref 17), (3, .ref 29), (4, .int x4)] [.int r] σ' mc ms P) : ks_W L xs mL_law rm_L_law 303 [(0, .ref ka_S), (1, .ref 0), (2, .ref 17), (3, .ref 29), (4, .int x4)] [.ref 29, .int s3, .int s2, .int s1, .ref 0] σ (mc + 7) (ms + 42) P := by
  refine ks_callSX (q := 306) (As := [.ref 0, .int s1, .int s2, .int s3, .ref 29]) (st := []) d_L_law_303 rfl rfl lk_L_90 ⟨by decide, by decide⟩ (Nat.le_of_ble_eq_true rfl) ⟨Nat.le_refl _, Nat.le_refl _⟩ hK (fun v σ' hq => ?_) (fun E σ' hq => ?_)
  · obtain ⟨r, e, hf⟩ := hq; cases e; exact kr r σ' hf
  · obtain ⟨r, e, hf⟩ := hq; cases e
theorem sg_L_law_306 {L : Nat} {xs : Nat → Int32} {σ : ks_St} {mc ms : Nat} {P : ka_O → ks_St → Prop} {x4 : Int32} {s0 : Int32}  (v1 : vp_in (x4 + 1) L) (v2 : vp_in (x4 + 2) L) (v3 : vp_in (x4 + 3) L) (k4 : ks_W L xs mL_law rm_L_law 327 [(0, .ref ka_S), (1, .ref 0), (2, .ref 17), (3, .ref 29), (4, .int x4), (5, .int s0)] [.int (xs (x4 + 3).toNatClampNeg), .int (xs (x4 + 2).toNatClampNeg), .int (xs (x4 + 1).toNatClampNeg), .ref 17] σ mc ms P) : ks_W L xs mL_law rm_L_law 306 [(0, .ref ka_S), (1, .ref 0), (2, .ref 17), (3, .ref 29), (4, .int x4)] [.int s0] σ mc ms P := by
  refine ka_istore (ls' := [(5, .int s0), (0, .ref ka_S), (1, .ref 0), (2, .ref 17), (3, .ref 29), (4, .int x4)]) d_L_law_306 rfl (by decide) rfl ?_
  refine ka_aload_n d_L_law_308 rfl rfl 3 rfl ?_
  refine ka_aload_n d_L_law_309 rfl rfl 1 rfl ?_
  refine ka_iload d_L_law_310 rfl 5 rfl ?_
  refine ka_iconst (v := 1) d_L_law_312 rfl (by decide) ?_
  refine ka_iadd d_L_law_313 rfl ?_
  refine ka_sld d_L_law_314 rfl v1 ?_
  refine ka_aload_n d_L_law_315 rfl rfl 1 rfl ?_
  refine ka_iload d_L_law_316 rfl 5 rfl ?_
  refine ka_iconst (v := 2) d_L_law_318 rfl (by decide) ?_
  refine ka_iadd d_L_law_319 rfl ?_
  refine ka_sld d_L_law_320 rfl v2 ?_
  refine ka_aload_n d_L_law_321 rfl rfl 1 rfl ?_
  refine ka_iload d_L_law_322 rfl 5 rfl ?_
  refine ka_iconst (v := 3) d_L_law_324 rfl (by decide) ?_
  refine ka_iadd d_L_law_325 rfl ?_
  refine ka_sld d_L_law_326 rfl v3 ?_
  refine ka_sub [1, 2, 3, 4, 5, 0] rfl ?_
  exact k4
theorem cs_L_law_327 {L : Nat} {xs : Nat → Int32} {σ : ks_St} {mc ms : Nat} {P : ka_O → ks_St → Prop} {f : Int32 → ks_St → Prop} {x4 : Int32} {x5 : Int32} {s1 : Int32} {s2 : Int32} {s3 : Int32} (hK : ks_M L xs mX5_op rm_X5_op [.ref 17, .int s1, .int s2, .int s3] σ (pi_ f)) (kr : ∀ r σ', f r σ' → ks_W L xs mL_law rm_L_law 330 [(0, .ref ka_S), (1, .ref 0), (2, .ref 17), (3, .ref 29), (4, .int x4), (5, .int x5)] [.int r] σ' mc ms P) : ks_W L xs mL_law rm_L_law 327 [(0, .ref ka_S), (1, .ref 0), (2, .ref 17), (3, .ref 29), (4, .int x4), (5, .int x5)] [.int s3, .int s2, .int s1, .ref 17] σ mc ms P := by
  refine ks_callV (q := 330) (o := 17) (ci := 5) (As := [.int s1, .int s2, .int s3]) (st := []) d_L_law_327 rfl rfl (by decide) rfl rfl lk_L_93 ⟨by decide, by decide⟩ (Nat.le_of_ble_eq_true rfl) ⟨Nat.le_refl _, Nat.le_refl _⟩ hK (fun v σ' hq => ?_) (fun E σ' hq => ?_)
  · obtain ⟨r, e, hf⟩ := hq; cases e; exact kr r σ' hf
  · obtain ⟨r, e, hf⟩ := hq; cases e
theorem sg_L_law_330 {L : Nat} {xs : Nat → Int32} {σ : ks_St} {mc ms : Nat} {P : ka_O → ks_St → Prop} {x4 : Int32} {x5 : Int32} {s0 : Int32}  (k1 : ks_W L xs mL_law rm_L_law 333 [(0, .ref ka_S), (1, .ref 0), (2, .ref 17), (3, .ref 29), (4, .int x4), (5, .int x5), (6, .int s0)] [.ref 17] σ mc ms P) : ks_W L xs mL_law rm_L_law 330 [(0, .ref ka_S), (1, .ref 0), (2, .ref 17), (3, .ref 29), (4, .int x4), (5, .int x5)] [.int s0] σ mc ms P := by
  refine ka_istore (ls' := [(6, .int s0), (0, .ref ka_S), (1, .ref 0), (2, .ref 17), (3, .ref 29), (4, .int x4), (5, .int x5)]) d_L_law_330 rfl (by decide) rfl ?_
  refine ka_aload_n d_L_law_332 rfl rfl 3 rfl ?_
  refine ka_sub [1, 2, 3, 4, 5, 6, 0] rfl ?_
  exact k1
theorem cs_L_law_333 {L : Nat} {xs : Nat → Int32} {σ : ks_St} {mc ms : Nat} {P : ka_O → ks_St → Prop} {f : Int32 → ks_St → Prop} {x4 : Int32} {x5 : Int32} {x6 : Int32} (hK : ks_M L xs mX5_thrown rm_X5_thrown [.ref 17] σ (pi_ f)) (kr : ∀ r σ', f r σ' → ks_W L xs mL_law rm_L_law 336 [(0, .ref ka_S), (1, .ref 0), (2, .ref 17), (3, .ref 29), (4, .int x4), (5, .int x5), (6, .int x6)] [.int r] σ' mc ms P) : ks_W L xs mL_law rm_L_law 333 [(0, .ref ka_S), (1, .ref 0), (2, .ref 17), (3, .ref 29), (4, .int x4), (5, .int x5), (6, .int x6)] [.ref 17] σ mc ms P := by
  refine ks_callV (q := 336) (o := 17) (ci := 5) (As := []) (st := []) d_L_law_333 rfl rfl (by decide) rfl rfl lk_L_81 ⟨by decide, by decide⟩ (Nat.le_of_ble_eq_true rfl) ⟨Nat.le_refl _, Nat.le_refl _⟩ hK (fun v σ' hq => ?_) (fun E σ' hq => ?_)
  · obtain ⟨r, e, hf⟩ := hq; cases e; exact kr r σ' hf
  · obtain ⟨r, e, hf⟩ := hq; cases e
theorem sg_L_law_336 {L : Nat} {xs : Nat → Int32} {σ : ks_St} {mc ms : Nat} {P : ka_O → ks_St → Prop} {x4 : Int32} {x5 : Int32} {x6 : Int32} {s0 : Int32}  (k3 : (s0 = x5) → (¬ x5 = 0) → ks_W L xs mL_law rm_L_law 360 [(0, .ref ka_S), (1, .ref 0), (2, .ref 17), (3, .ref 29), (4, .int x4)] [] σ mc ms P) (k5 : (s0 = x5) → (x5 = 0) → ((lg_cmp (sg_ σ 29 (0 : Int32).toNatClampNeg) (x6.toInt64)) = 0) → ks_W L xs mL_law rm_L_law 360 [(0, .ref ka_S), (1, .ref 0), (2, .ref 17), (3, .ref 29), (4, .int x4)] [] σ mc ms P) (r6 : (s0 = x5) → (x5 = 0) → (¬ ((lg_cmp (sg_ σ 29 (0 : Int32).toNatClampNeg) (x6.toInt64)) = 0)) → P (.inl (some (.int 0))) σ) (r7 : (¬ (s0 = x5)) → P (.inl (some (.int 0))) σ) : ks_W L xs mL_law rm_L_law 336 [(0, .ref ka_S), (1, .ref 0), (2, .ref 17), (3, .ref 29), (4, .int x4), (5, .int x5), (6, .int x6)] [.int s0] σ mc ms P := by
  refine ka_iload d_L_law_336 rfl 5 rfl ?_
  refine ka_icmp_eq (tgt := 343) d_L_law_338 (by decide) rfl (fun c1 => ?_) (fun c1 => ?_)
  · refine ka_iload d_L_law_343 rfl 5 rfl ?_
    refine ka_if_ne (tgt := 360) d_L_law_345 (by decide) rfl (fun c2 => ?_) (fun c2 => ?_)
    · refine ka_sub [0, 1, 2, 3, 4] rfl ?_
      exact (k3 c1 c2)
    · refine ka_aload_n d_L_law_348 rfl rfl 3 rfl ?_
      refine ka_iconst (v := 0) d_L_law_349 rfl (by decide) ?_
      refine ks_lald row_29 d_L_law_350 rfl (by unfold vp_in; decide) ?_
      refine ka_iload d_L_law_351 rfl 6 rfl ?_
      refine ka_i2l d_L_law_353 rfl ?_
      refine ka_lcmp d_L_law_354 rfl ?_
      refine ka_if_eq (tgt := 360) d_L_law_355 (by decide) rfl (fun c4 => ?_) (fun c4 => ?_)
      · refine ka_sub [0, 1, 2, 3, 4] rfl ?_
        exact (k5 c1 c2 c4)
      · refine ka_iconst (v := 0) d_L_law_358 rfl (by decide) ?_
        exact ks_iret (ty := .boolean) d_L_law_359 rfl rfl (r6 c1 c2 c4)
  · refine ka_iconst (v := 0) d_L_law_341 rfl (by decide) ?_
    exact ks_iret (ty := .boolean) d_L_law_342 rfl rfl (r7 c1)
theorem sg_L_law_360 {L : Nat} {xs : Nat → Int32} {σ : ks_St} {mc ms : Nat} {P : ka_O → ks_St → Prop} {x4 : Int32}  (k1 : ks_W L xs mL_law rm_L_law 1118 [(0, .ref ka_S), (1, .ref 0), (2, .ref 17), (3, .ref 29), (4, .int x4)] [] σ mc ms P) : ks_W L xs mL_law rm_L_law 360 [(0, .ref ka_S), (1, .ref 0), (2, .ref 17), (3, .ref 29), (4, .int x4)] [] σ mc ms P := by
  refine ka_goto (q := 1118) d_L_law_360 (by decide) ?_
  exact k1
theorem cs_L_law_371 {L : Nat} {xs : Nat → Int32} {σ : ks_St} {mc ms : Nat} {P : ka_O → ks_St → Prop} {f : Int32 → ks_St → Prop} {x4 : Int32} {s1 : Int32} (hK : ks_M L xs mL_flag rm_L_flag [.ref 0, .int s1, .ref 29] σ (pi_ f)) (kr : ∀ r σ', f r σ' → ks_W L xs mL_law rm_L_law 374 [(0, .ref ka_S), (1, .ref 0), (2, .ref 17), (3, .ref 29), (4, .int x4)] [.int r] σ' mc ms P) : ks_W L xs mL_law rm_L_law 371 [(0, .ref ka_S), (1, .ref 0), (2, .ref 17), (3, .ref 29), (4, .int x4)] [.ref 29, .int s1, .ref 0] σ (mc + 1) (ms + 6) P := by
  refine ks_callSX (q := 374) (As := [.ref 0, .int s1, .ref 29]) (st := []) d_L_law_371 rfl rfl lk_L_94 ⟨by decide, by decide⟩ (Nat.le_of_ble_eq_true rfl) ⟨Nat.le_refl _, Nat.le_refl _⟩ hK (fun v σ' hq => ?_) (fun E σ' hq => ?_)
  · obtain ⟨r, e, hf⟩ := hq; cases e; exact kr r σ' hf
  · obtain ⟨r, e, hf⟩ := hq; cases e
theorem sg_L_law_374 {L : Nat} {xs : Nat → Int32} {σ : ks_St} {mc ms : Nat} {P : ka_O → ks_St → Prop} {x4 : Int32} {s0 : Int32}  (v1 : vp_in (x4 + 1) L) (k2 : ks_W L xs mL_law rm_L_law 383 [(0, .ref ka_S), (1, .ref 0), (2, .ref 17), (3, .ref 29), (4, .int x4), (5, .int s0)] [.int (xs (x4 + 1).toNatClampNeg), .ref 17] σ mc ms P) : ks_W L xs mL_law rm_L_law 374 [(0, .ref ka_S), (1, .ref 0), (2, .ref 17), (3, .ref 29), (4, .int x4)] [.int s0] σ mc ms P := by
  refine ka_istore (ls' := [(5, .int s0), (0, .ref ka_S), (1, .ref 0), (2, .ref 17), (3, .ref 29), (4, .int x4)]) d_L_law_374 rfl (by decide) rfl ?_
  refine ka_aload_n d_L_law_376 rfl rfl 3 rfl ?_
  refine ka_aload_n d_L_law_377 rfl rfl 1 rfl ?_
  refine ka_iload d_L_law_378 rfl 5 rfl ?_
  refine ka_iconst (v := 1) d_L_law_380 rfl (by decide) ?_
  refine ka_iadd d_L_law_381 rfl ?_
  refine ka_sld d_L_law_382 rfl v1 ?_
  refine ka_sub [1, 2, 3, 4, 5, 0] rfl ?_
  exact k2
theorem cs_L_law_383 {L : Nat} {xs : Nat → Int32} {σ : ks_St} {mc ms : Nat} {P : ka_O → ks_St → Prop} {f : Int32 → ks_St → Prop} {x4 : Int32} {x5 : Int32} {s1 : Int32} (hK : ks_M L xs mX5_flag rm_X5_flag [.ref 17, .int s1] σ (pi_ f)) (kr : ∀ r σ', f r σ' → ks_W L xs mL_law rm_L_law 386 [(0, .ref ka_S), (1, .ref 0), (2, .ref 17), (3, .ref 29), (4, .int x4), (5, .int x5)] [.int r] σ' mc ms P) : ks_W L xs mL_law rm_L_law 383 [(0, .ref ka_S), (1, .ref 0), (2, .ref 17), (3, .ref 29), (4, .int x4), (5, .int x5)] [.int s1, .ref 17] σ mc ms P := by
  refine ks_callV (q := 386) (o := 17) (ci := 5) (As := [.int s1]) (st := []) d_L_law_383 rfl rfl (by decide) rfl rfl lk_L_97 ⟨by decide, by decide⟩ (Nat.le_of_ble_eq_true rfl) ⟨Nat.le_refl _, Nat.le_refl _⟩ hK (fun v σ' hq => ?_) (fun E σ' hq => ?_)
  · obtain ⟨r, e, hf⟩ := hq; cases e; exact kr r σ' hf
  · obtain ⟨r, e, hf⟩ := hq; cases e
theorem sg_L_law_386 {L : Nat} {xs : Nat → Int32} {σ : ks_St} {mc ms : Nat} {P : ka_O → ks_St → Prop} {x4 : Int32} {x5 : Int32} {s0 : Int32}  (k1 : ks_W L xs mL_law rm_L_law 389 [(0, .ref ka_S), (1, .ref 0), (2, .ref 17), (3, .ref 29), (4, .int x4), (5, .int x5), (6, .int s0)] [.ref 17] σ mc ms P) : ks_W L xs mL_law rm_L_law 386 [(0, .ref ka_S), (1, .ref 0), (2, .ref 17), (3, .ref 29), (4, .int x4), (5, .int x5)] [.int s0] σ mc ms P := by
  refine ka_istore (ls' := [(6, .int s0), (0, .ref ka_S), (1, .ref 0), (2, .ref 17), (3, .ref 29), (4, .int x4), (5, .int x5)]) d_L_law_386 rfl (by decide) rfl ?_
  refine ka_aload_n d_L_law_388 rfl rfl 3 rfl ?_
  refine ka_sub [1, 2, 3, 4, 5, 6, 0] rfl ?_
  exact k1
theorem cs_L_law_389 {L : Nat} {xs : Nat → Int32} {σ : ks_St} {mc ms : Nat} {P : ka_O → ks_St → Prop} {f : Int32 → ks_St → Prop} {x4 : Int32} {x5 : Int32} {x6 : Int32} (hK : ks_M L xs mX5_thrown rm_X5_thrown [.ref 17] σ (pi_ f)) (kr : ∀ r σ', f r σ' → ks_W L xs mL_law rm_L_law 392 [(0, .ref ka_S), (1, .ref 0), (2, .ref 17), (3, .ref 29), (4, .int x4), (5, .int x5), (6, .int x6)] [.int r] σ' mc ms P) : ks_W L xs mL_law rm_L_law 389 [(0, .ref ka_S), (1, .ref 0), (2, .ref 17), (3, .ref 29), (4, .int x4), (5, .int x5), (6, .int x6)] [.ref 17] σ mc ms P := by
  refine ks_callV (q := 392) (o := 17) (ci := 5) (As := []) (st := []) d_L_law_389 rfl rfl (by decide) rfl rfl lk_L_81 ⟨by decide, by decide⟩ (Nat.le_of_ble_eq_true rfl) ⟨Nat.le_refl _, Nat.le_refl _⟩ hK (fun v σ' hq => ?_) (fun E σ' hq => ?_)
  · obtain ⟨r, e, hf⟩ := hq; cases e; exact kr r σ' hf
  · obtain ⟨r, e, hf⟩ := hq; cases e
theorem sg_L_law_392 {L : Nat} {xs : Nat → Int32} {σ : ks_St} {mc ms : Nat} {P : ka_O → ks_St → Prop} {x4 : Int32} {x5 : Int32} {x6 : Int32} {s0 : Int32}  (k3 : (s0 = x5) → (¬ x5 = 0) → ks_W L xs mL_law rm_L_law 416 [(0, .ref ka_S), (1, .ref 0), (2, .ref 17), (3, .ref 29), (4, .int x4)] [] σ mc ms P) (k5 : (s0 = x5) → (x5 = 0) → ((lg_cmp (sg_ σ 29 (0 : Int32).toNatClampNeg) (x6.toInt64)) = 0) → ks_W L xs mL_law rm_L_law 416 [(0, .ref ka_S), (1, .ref 0), (2, .ref 17), (3, .ref 29), (4, .int x4)] [] σ mc ms P) (r6 : (s0 = x5) → (x5 = 0) → (¬ ((lg_cmp (sg_ σ 29 (0 : Int32).toNatClampNeg) (x6.toInt64)) = 0)) → P (.inl (some (.int 0))) σ) (r7 : (¬ (s0 = x5)) → P (.inl (some (.int 0))) σ) : ks_W L xs mL_law rm_L_law 392 [(0, .ref ka_S), (1, .ref 0), (2, .ref 17), (3, .ref 29), (4, .int x4), (5, .int x5), (6, .int x6)] [.int s0] σ mc ms P := by
  refine ka_iload d_L_law_392 rfl 5 rfl ?_
  refine ka_icmp_eq (tgt := 399) d_L_law_394 (by decide) rfl (fun c1 => ?_) (fun c1 => ?_)
  · refine ka_iload d_L_law_399 rfl 5 rfl ?_
    refine ka_if_ne (tgt := 416) d_L_law_401 (by decide) rfl (fun c2 => ?_) (fun c2 => ?_)
    · refine ka_sub [0, 1, 2, 3, 4] rfl ?_
      exact (k3 c1 c2)
    · refine ka_aload_n d_L_law_404 rfl rfl 3 rfl ?_
      refine ka_iconst (v := 0) d_L_law_405 rfl (by decide) ?_
      refine ks_lald row_29 d_L_law_406 rfl (by unfold vp_in; decide) ?_
      refine ka_iload d_L_law_407 rfl 6 rfl ?_
      refine ka_i2l d_L_law_409 rfl ?_
      refine ka_lcmp d_L_law_410 rfl ?_
      refine ka_if_eq (tgt := 416) d_L_law_411 (by decide) rfl (fun c4 => ?_) (fun c4 => ?_)
      · refine ka_sub [0, 1, 2, 3, 4] rfl ?_
        exact (k5 c1 c2 c4)
      · refine ka_iconst (v := 0) d_L_law_414 rfl (by decide) ?_
        exact ks_iret (ty := .boolean) d_L_law_415 rfl rfl (r6 c1 c2 c4)
  · refine ka_iconst (v := 0) d_L_law_397 rfl (by decide) ?_
    exact ks_iret (ty := .boolean) d_L_law_398 rfl rfl (r7 c1)
theorem sg_L_law_416 {L : Nat} {xs : Nat → Int32} {σ : ks_St} {mc ms : Nat} {P : ka_O → ks_St → Prop} {x4 : Int32}  (k1 : ks_W L xs mL_law rm_L_law 1118 [(0, .ref ka_S), (1, .ref 0), (2, .ref 17), (3, .ref 29), (4, .int x4)] [] σ mc ms P) : ks_W L xs mL_law rm_L_law 416 [(0, .ref ka_S), (1, .ref 0), (2, .ref 17), (3, .ref 29), (4, .int x4)] [] σ mc ms P := by
  refine ka_goto (q := 1118) d_L_law_416 (by decide) ?_
  exact k1
theorem cs_L_law_439 {L : Nat} {xs : Nat → Int32} {σ : ks_St} {mc ms : Nat} {P : ka_O → ks_St → Prop} {f : Int32 → ks_St → Prop} {x4 : Int32} {s1 : Int32} {s2 : Int32} {s3 : Int32} (hK : ks_M L xs mL_field rm_L_field [.ref 0, .int s1, .int s2, .int s3, .ref 29] σ (pi_ f)) (kr : ∀ r σ', f r σ' → ks_W L xs mL_law rm_L_law 442 [(0, .ref ka_S), (1, .ref 0), (2, .ref 17), (3, .ref 29), (4, .int x4)] [.int r] σ' mc ms P) : ks_W L xs mL_law rm_L_law 439 [(0, .ref ka_S), (1, .ref 0), (2, .ref 17), (3, .ref 29), (4, .int x4)] [.ref 29, .int s3, .int s2, .int s1, .ref 0] σ (mc + 3) (ms + 18) P := by
  refine ks_callSX (q := 442) (As := [.ref 0, .int s1, .int s2, .int s3, .ref 29]) (st := []) d_L_law_439 rfl rfl lk_L_98 ⟨by decide, by decide⟩ (Nat.le_of_ble_eq_true rfl) ⟨Nat.le_refl _, Nat.le_refl _⟩ hK (fun v σ' hq => ?_) (fun E σ' hq => ?_)
  · obtain ⟨r, e, hf⟩ := hq; cases e; exact kr r σ' hf
  · obtain ⟨r, e, hf⟩ := hq; cases e
theorem sg_L_law_442 {L : Nat} {xs : Nat → Int32} {σ : ks_St} {mc ms : Nat} {P : ka_O → ks_St → Prop} {x4 : Int32} {s0 : Int32}  (v1 : vp_in (x4 + 1) L) (v2 : vp_in (x4 + 2) L) (v3 : vp_in (x4 + 3) L) (k4 : ks_W L xs mL_law rm_L_law 463 [(0, .ref ka_S), (1, .ref 0), (2, .ref 17), (3, .ref 29), (4, .int x4), (5, .int s0)] [.int (xs (x4 + 3).toNatClampNeg), .int (xs (x4 + 2).toNatClampNeg), .int (xs (x4 + 1).toNatClampNeg), .ref 17] σ mc ms P) : ks_W L xs mL_law rm_L_law 442 [(0, .ref ka_S), (1, .ref 0), (2, .ref 17), (3, .ref 29), (4, .int x4)] [.int s0] σ mc ms P := by
  refine ka_istore (ls' := [(5, .int s0), (0, .ref ka_S), (1, .ref 0), (2, .ref 17), (3, .ref 29), (4, .int x4)]) d_L_law_442 rfl (by decide) rfl ?_
  refine ka_aload_n d_L_law_444 rfl rfl 3 rfl ?_
  refine ka_aload_n d_L_law_445 rfl rfl 1 rfl ?_
  refine ka_iload d_L_law_446 rfl 5 rfl ?_
  refine ka_iconst (v := 1) d_L_law_448 rfl (by decide) ?_
  refine ka_iadd d_L_law_449 rfl ?_
  refine ka_sld d_L_law_450 rfl v1 ?_
  refine ka_aload_n d_L_law_451 rfl rfl 1 rfl ?_
  refine ka_iload d_L_law_452 rfl 5 rfl ?_
  refine ka_iconst (v := 2) d_L_law_454 rfl (by decide) ?_
  refine ka_iadd d_L_law_455 rfl ?_
  refine ka_sld d_L_law_456 rfl v2 ?_
  refine ka_aload_n d_L_law_457 rfl rfl 1 rfl ?_
  refine ka_iload d_L_law_458 rfl 5 rfl ?_
  refine ka_iconst (v := 3) d_L_law_460 rfl (by decide) ?_
  refine ka_iadd d_L_law_461 rfl ?_
  refine ka_sld d_L_law_462 rfl v3 ?_
  refine ka_sub [1, 2, 3, 4, 5, 0] rfl ?_
  exact k4
theorem cs_L_law_463 {L : Nat} {xs : Nat → Int32} {σ : ks_St} {mc ms : Nat} {P : ka_O → ks_St → Prop} {f : Int32 → ks_St → Prop} {x4 : Int32} {x5 : Int32} {s1 : Int32} {s2 : Int32} {s3 : Int32} (hK : ks_M L xs mX5_field rm_X5_field [.ref 17, .int s1, .int s2, .int s3] σ (pi_ f)) (kr : ∀ r σ', f r σ' → ks_W L xs mL_law rm_L_law 466 [(0, .ref ka_S), (1, .ref 0), (2, .ref 17), (3, .ref 29), (4, .int x4), (5, .int x5)] [.int r] σ' mc ms P) : ks_W L xs mL_law rm_L_law 463 [(0, .ref ka_S), (1, .ref 0), (2, .ref 17), (3, .ref 29), (4, .int x4), (5, .int x5)] [.int s3, .int s2, .int s1, .ref 17] σ mc ms P := by
  refine ks_callV (q := 466) (o := 17) (ci := 5) (As := [.int s1, .int s2, .int s3]) (st := []) d_L_law_463 rfl rfl (by decide) rfl rfl lk_L_100 ⟨by decide, by decide⟩ (Nat.le_of_ble_eq_true rfl) ⟨Nat.le_refl _, Nat.le_refl _⟩ hK (fun v σ' hq => ?_) (fun E σ' hq => ?_)
  · obtain ⟨r, e, hf⟩ := hq; cases e; exact kr r σ' hf
  · obtain ⟨r, e, hf⟩ := hq; cases e
theorem sg_L_law_466 {L : Nat} {xs : Nat → Int32} {σ : ks_St} {mc ms : Nat} {P : ka_O → ks_St → Prop} {x4 : Int32} {x5 : Int32} {s0 : Int32}  (k1 : ks_W L xs mL_law rm_L_law 469 [(0, .ref ka_S), (1, .ref 0), (2, .ref 17), (3, .ref 29), (4, .int x4), (5, .int x5), (6, .int s0)] [.ref 17] σ mc ms P) : ks_W L xs mL_law rm_L_law 466 [(0, .ref ka_S), (1, .ref 0), (2, .ref 17), (3, .ref 29), (4, .int x4), (5, .int x5)] [.int s0] σ mc ms P := by
  refine ka_istore (ls' := [(6, .int s0), (0, .ref ka_S), (1, .ref 0), (2, .ref 17), (3, .ref 29), (4, .int x4), (5, .int x5)]) d_L_law_466 rfl (by decide) rfl ?_
  refine ka_aload_n d_L_law_468 rfl rfl 3 rfl ?_
  refine ka_sub [1, 2, 3, 4, 5, 6, 0] rfl ?_
  exact k1
theorem cs_L_law_469 {L : Nat} {xs : Nat → Int32} {σ : ks_St} {mc ms : Nat} {P : ka_O → ks_St → Prop} {f : Int32 → ks_St → Prop} {x4 : Int32} {x5 : Int32} {x6 : Int32} (hK : ks_M L xs mX5_thrown rm_X5_thrown [.ref 17] σ (pi_ f)) (kr : ∀ r σ', f r σ' → ks_W L xs mL_law rm_L_law 472 [(0, .ref ka_S), (1, .ref 0), (2, .ref 17), (3, .ref 29), (4, .int x4), (5, .int x5), (6, .int x6)] [.int r] σ' mc ms P) : ks_W L xs mL_law rm_L_law 469 [(0, .ref ka_S), (1, .ref 0), (2, .ref 17), (3, .ref 29), (4, .int x4), (5, .int x5), (6, .int x6)] [.ref 17] σ mc ms P := by
  refine ks_callV (q := 472) (o := 17) (ci := 5) (As := []) (st := []) d_L_law_469 rfl rfl (by decide) rfl rfl lk_L_81 ⟨by decide, by decide⟩ (Nat.le_of_ble_eq_true rfl) ⟨Nat.le_refl _, Nat.le_refl _⟩ hK (fun v σ' hq => ?_) (fun E σ' hq => ?_)
  · obtain ⟨r, e, hf⟩ := hq; cases e; exact kr r σ' hf
  · obtain ⟨r, e, hf⟩ := hq; cases e
theorem sg_L_law_472 {L : Nat} {xs : Nat → Int32} {σ : ks_St} {mc ms : Nat} {P : ka_O → ks_St → Prop} {x4 : Int32} {x5 : Int32} {x6 : Int32} {s0 : Int32}  (k3 : (s0 = x5) → (¬ x5 = 0) → ks_W L xs mL_law rm_L_law 496 [(0, .ref ka_S), (1, .ref 0), (2, .ref 17), (3, .ref 29), (4, .int x4)] [] σ mc ms P) (k5 : (s0 = x5) → (x5 = 0) → ((lg_cmp (sg_ σ 29 (0 : Int32).toNatClampNeg) (x6.toInt64)) = 0) → ks_W L xs mL_law rm_L_law 496 [(0, .ref ka_S), (1, .ref 0), (2, .ref 17), (3, .ref 29), (4, .int x4)] [] σ mc ms P) (r6 : (s0 = x5) → (x5 = 0) → (¬ ((lg_cmp (sg_ σ 29 (0 : Int32).toNatClampNeg) (x6.toInt64)) = 0)) → P (.inl (some (.int 0))) σ) (r7 : (¬ (s0 = x5)) → P (.inl (some (.int 0))) σ) : ks_W L xs mL_law rm_L_law 472 [(0, .ref ka_S), (1, .ref 0), (2, .ref 17), (3, .ref 29), (4, .int x4), (5, .int x5), (6, .int x6)] [.int s0] σ mc ms P := by
  refine ka_iload d_L_law_472 rfl 5 rfl ?_
  refine ka_icmp_eq (tgt := 479) d_L_law_474 (by decide) rfl (fun c1 => ?_) (fun c1 => ?_)
  · refine ka_iload d_L_law_479 rfl 5 rfl ?_
    refine ka_if_ne (tgt := 496) d_L_law_481 (by decide) rfl (fun c2 => ?_) (fun c2 => ?_)
    · refine ka_sub [0, 1, 2, 3, 4] rfl ?_
      exact (k3 c1 c2)
    · refine ka_aload_n d_L_law_484 rfl rfl 3 rfl ?_
      refine ka_iconst (v := 0) d_L_law_485 rfl (by decide) ?_
      refine ks_lald row_29 d_L_law_486 rfl (by unfold vp_in; decide) ?_
      refine ka_iload d_L_law_487 rfl 6 rfl ?_
      refine ka_i2l d_L_law_489 rfl ?_
      refine ka_lcmp d_L_law_490 rfl ?_
      refine ka_if_eq (tgt := 496) d_L_law_491 (by decide) rfl (fun c4 => ?_) (fun c4 => ?_)
      · refine ka_sub [0, 1, 2, 3, 4] rfl ?_
        exact (k5 c1 c2 c4)
      · refine ka_iconst (v := 0) d_L_law_494 rfl (by decide) ?_
        exact ks_iret (ty := .boolean) d_L_law_495 rfl rfl (r6 c1 c2 c4)
  · refine ka_iconst (v := 0) d_L_law_477 rfl (by decide) ?_
    exact ks_iret (ty := .boolean) d_L_law_478 rfl rfl (r7 c1)
theorem sg_L_law_496 {L : Nat} {xs : Nat → Int32} {σ : ks_St} {mc ms : Nat} {P : ka_O → ks_St → Prop} {x4 : Int32}  (k1 : ks_W L xs mL_law rm_L_law 1118 [(0, .ref ka_S), (1, .ref 0), (2, .ref 17), (3, .ref 29), (4, .int x4)] [] σ mc ms P) : ks_W L xs mL_law rm_L_law 496 [(0, .ref ka_S), (1, .ref 0), (2, .ref 17), (3, .ref 29), (4, .int x4)] [] σ mc ms P := by
  refine ka_goto (q := 1118) d_L_law_496 (by decide) ?_
  exact k1
theorem cs_L_law_513 {L : Nat} {xs : Nat → Int32} {σ : ks_St} {mc ms : Nat} {P : ka_O → ks_St → Prop} {f : Int32 → ks_St → Prop} {x4 : Int32} {s1 : Int32} {s2 : Int32} (hK : ks_M L xs mL_join rm_L_join [.ref 0, .int s1, .int s2, .ref 29] σ (pi_ f)) (kr : ∀ r σ', f r σ' → ks_W L xs mL_law rm_L_law 516 [(0, .ref ka_S), (1, .ref 0), (2, .ref 17), (3, .ref 29), (4, .int x4)] [.int r] σ' mc ms P) : ks_W L xs mL_law rm_L_law 513 [(0, .ref ka_S), (1, .ref 0), (2, .ref 17), (3, .ref 29), (4, .int x4)] [.ref 29, .int s2, .int s1, .ref 0] σ (mc + 4) (ms + 24) P := by
  refine ks_callSX (q := 516) (As := [.ref 0, .int s1, .int s2, .ref 29]) (st := []) d_L_law_513 rfl rfl lk_L_101 ⟨by decide, by decide⟩ (Nat.le_of_ble_eq_true rfl) ⟨Nat.le_refl _, Nat.le_refl _⟩ hK (fun v σ' hq => ?_) (fun E σ' hq => ?_)
  · obtain ⟨r, e, hf⟩ := hq; cases e; exact kr r σ' hf
  · obtain ⟨r, e, hf⟩ := hq; cases e
theorem sg_L_law_516 {L : Nat} {xs : Nat → Int32} {σ : ks_St} {mc ms : Nat} {P : ka_O → ks_St → Prop} {x4 : Int32} {s0 : Int32}  (v1 : vp_in (x4 + 1) L) (v2 : vp_in (x4 + 2) L) (k3 : ks_W L xs mL_law rm_L_law 531 [(0, .ref ka_S), (1, .ref 0), (2, .ref 17), (3, .ref 29), (4, .int x4), (5, .int s0)] [.int (xs (x4 + 2).toNatClampNeg), .int (xs (x4 + 1).toNatClampNeg), .ref 17] σ mc ms P) : ks_W L xs mL_law rm_L_law 516 [(0, .ref ka_S), (1, .ref 0), (2, .ref 17), (3, .ref 29), (4, .int x4)] [.int s0] σ mc ms P := by
  refine ka_istore (ls' := [(5, .int s0), (0, .ref ka_S), (1, .ref 0), (2, .ref 17), (3, .ref 29), (4, .int x4)]) d_L_law_516 rfl (by decide) rfl ?_
  refine ka_aload_n d_L_law_518 rfl rfl 3 rfl ?_
  refine ka_aload_n d_L_law_519 rfl rfl 1 rfl ?_
  refine ka_iload d_L_law_520 rfl 5 rfl ?_
  refine ka_iconst (v := 1) d_L_law_522 rfl (by decide) ?_
  refine ka_iadd d_L_law_523 rfl ?_
  refine ka_sld d_L_law_524 rfl v1 ?_
  refine ka_aload_n d_L_law_525 rfl rfl 1 rfl ?_
  refine ka_iload d_L_law_526 rfl 5 rfl ?_
  refine ka_iconst (v := 2) d_L_law_528 rfl (by decide) ?_
  refine ka_iadd d_L_law_529 rfl ?_
  refine ka_sld d_L_law_530 rfl v2 ?_
  refine ka_sub [1, 2, 3, 4, 5, 0] rfl ?_
  exact k3
theorem cs_L_law_531 {L : Nat} {xs : Nat → Int32} {σ : ks_St} {mc ms : Nat} {P : ka_O → ks_St → Prop} {f : Int32 → ks_St → Prop} {x4 : Int32} {x5 : Int32} {s1 : Int32} {s2 : Int32} (hK : ks_M L xs mX5_join rm_X5_join [.ref 17, .int s1, .int s2] σ (pi_ f)) (kr : ∀ r σ', f r σ' → ks_W L xs mL_law rm_L_law 534 [(0, .ref ka_S), (1, .ref 0), (2, .ref 17), (3, .ref 29), (4, .int x4), (5, .int x5)] [.int r] σ' mc ms P) : ks_W L xs mL_law rm_L_law 531 [(0, .ref ka_S), (1, .ref 0), (2, .ref 17), (3, .ref 29), (4, .int x4), (5, .int x5)] [.int s2, .int s1, .ref 17] σ mc ms P := by
  refine ks_callV (q := 534) (o := 17) (ci := 5) (As := [.int s1, .int s2]) (st := []) d_L_law_531 rfl rfl (by decide) rfl rfl lk_L_104 ⟨by decide, by decide⟩ (Nat.le_of_ble_eq_true rfl) ⟨Nat.le_refl _, Nat.le_refl _⟩ hK (fun v σ' hq => ?_) (fun E σ' hq => ?_)
  · obtain ⟨r, e, hf⟩ := hq; cases e; exact kr r σ' hf
  · obtain ⟨r, e, hf⟩ := hq; cases e
theorem sg_L_law_534 {L : Nat} {xs : Nat → Int32} {σ : ks_St} {mc ms : Nat} {P : ka_O → ks_St → Prop} {x4 : Int32} {x5 : Int32} {s0 : Int32}  (k1 : ks_W L xs mL_law rm_L_law 537 [(0, .ref ka_S), (1, .ref 0), (2, .ref 17), (3, .ref 29), (4, .int x4), (5, .int x5), (6, .int s0)] [.ref 17] σ mc ms P) : ks_W L xs mL_law rm_L_law 534 [(0, .ref ka_S), (1, .ref 0), (2, .ref 17), (3, .ref 29), (4, .int x4), (5, .int x5)] [.int s0] σ mc ms P := by
  refine ka_istore (ls' := [(6, .int s0), (0, .ref ka_S), (1, .ref 0), (2, .ref 17), (3, .ref 29), (4, .int x4), (5, .int x5)]) d_L_law_534 rfl (by decide) rfl ?_
  refine ka_aload_n d_L_law_536 rfl rfl 3 rfl ?_
  refine ka_sub [1, 2, 3, 4, 5, 6, 0] rfl ?_
  exact k1
theorem cs_L_law_537 {L : Nat} {xs : Nat → Int32} {σ : ks_St} {mc ms : Nat} {P : ka_O → ks_St → Prop} {f : Int32 → ks_St → Prop} {x4 : Int32} {x5 : Int32} {x6 : Int32} (hK : ks_M L xs mX5_thrown rm_X5_thrown [.ref 17] σ (pi_ f)) (kr : ∀ r σ', f r σ' → ks_W L xs mL_law rm_L_law 540 [(0, .ref ka_S), (1, .ref 0), (2, .ref 17), (3, .ref 29), (4, .int x4), (5, .int x5), (6, .int x6)] [.int r] σ' mc ms P) : ks_W L xs mL_law rm_L_law 537 [(0, .ref ka_S), (1, .ref 0), (2, .ref 17), (3, .ref 29), (4, .int x4), (5, .int x5), (6, .int x6)] [.ref 17] σ mc ms P := by
  refine ks_callV (q := 540) (o := 17) (ci := 5) (As := []) (st := []) d_L_law_537 rfl rfl (by decide) rfl rfl lk_L_81 ⟨by decide, by decide⟩ (Nat.le_of_ble_eq_true rfl) ⟨Nat.le_refl _, Nat.le_refl _⟩ hK (fun v σ' hq => ?_) (fun E σ' hq => ?_)
  · obtain ⟨r, e, hf⟩ := hq; cases e; exact kr r σ' hf
  · obtain ⟨r, e, hf⟩ := hq; cases e
theorem sg_L_law_540 {L : Nat} {xs : Nat → Int32} {σ : ks_St} {mc ms : Nat} {P : ka_O → ks_St → Prop} {x4 : Int32} {x5 : Int32} {x6 : Int32} {s0 : Int32}  (k3 : (s0 = x5) → (¬ x5 = 0) → ks_W L xs mL_law rm_L_law 564 [(0, .ref ka_S), (1, .ref 0), (2, .ref 17), (3, .ref 29), (4, .int x4)] [] σ mc ms P) (k5 : (s0 = x5) → (x5 = 0) → ((lg_cmp (sg_ σ 29 (0 : Int32).toNatClampNeg) (x6.toInt64)) = 0) → ks_W L xs mL_law rm_L_law 564 [(0, .ref ka_S), (1, .ref 0), (2, .ref 17), (3, .ref 29), (4, .int x4)] [] σ mc ms P) (r6 : (s0 = x5) → (x5 = 0) → (¬ ((lg_cmp (sg_ σ 29 (0 : Int32).toNatClampNeg) (x6.toInt64)) = 0)) → P (.inl (some (.int 0))) σ) (r7 : (¬ (s0 = x5)) → P (.inl (some (.int 0))) σ) : ks_W L xs mL_law rm_L_law 540 [(0, .ref ka_S), (1, .ref 0), (2, .ref 17), (3, .ref 29), (4, .int x4), (5, .int x5), (6, .int x6)] [.int s0] σ mc ms P := by
  refine ka_iload d_L_law_540 rfl 5 rfl ?_
  refine ka_icmp_eq (tgt := 547) d_L_law_542 (by decide) rfl (fun c1 => ?_) (fun c1 => ?_)
  · refine ka_iload d_L_law_547 rfl 5 rfl ?_
    refine ka_if_ne (tgt := 564) d_L_law_549 (by decide) rfl (fun c2 => ?_) (fun c2 => ?_)
    · refine ka_sub [0, 1, 2, 3, 4] rfl ?_
      exact (k3 c1 c2)
    · refine ka_aload_n d_L_law_552 rfl rfl 3 rfl ?_
      refine ka_iconst (v := 0) d_L_law_553 rfl (by decide) ?_
      refine ks_lald row_29 d_L_law_554 rfl (by unfold vp_in; decide) ?_
      refine ka_iload d_L_law_555 rfl 6 rfl ?_
      refine ka_i2l d_L_law_557 rfl ?_
      refine ka_lcmp d_L_law_558 rfl ?_
      refine ka_if_eq (tgt := 564) d_L_law_559 (by decide) rfl (fun c4 => ?_) (fun c4 => ?_)
      · refine ka_sub [0, 1, 2, 3, 4] rfl ?_
        exact (k5 c1 c2 c4)
      · refine ka_iconst (v := 0) d_L_law_562 rfl (by decide) ?_
        exact ks_iret (ty := .boolean) d_L_law_563 rfl rfl (r6 c1 c2 c4)
  · refine ka_iconst (v := 0) d_L_law_545 rfl (by decide) ?_
    exact ks_iret (ty := .boolean) d_L_law_546 rfl rfl (r7 c1)
theorem sg_L_law_564 {L : Nat} {xs : Nat → Int32} {σ : ks_St} {mc ms : Nat} {P : ka_O → ks_St → Prop} {x4 : Int32}  (k1 : ks_W L xs mL_law rm_L_law 1118 [(0, .ref ka_S), (1, .ref 0), (2, .ref 17), (3, .ref 29), (4, .int x4)] [] σ mc ms P) : ks_W L xs mL_law rm_L_law 564 [(0, .ref ka_S), (1, .ref 0), (2, .ref 17), (3, .ref 29), (4, .int x4)] [] σ mc ms P := by
  refine ka_goto (q := 1118) d_L_law_564 (by decide) ?_
  exact k1
theorem sg_L_law_594 {L : Nat} {xs : Nat → Int32} {σ : ks_St} {mc ms : Nat} {P : ka_O → ks_St → Prop} {x4 : Int32} {s1 : Int32} {s2 : Int32} {s3 : Int32}  (k1 : ks_W L xs mL_law rm_L_law 595 [(0, .ref ka_S), (1, .ref 0), (2, .ref 17), (3, .ref 29), (4, .int x4)] [.ref 29, .int s3, .int s2, .int s1, .ref 0] σ mc ms P) : ks_W L xs mL_law rm_L_law 594 [(0, .ref ka_S), (1, .ref 0), (2, .ref 17), (3, .ref 29), (4, .int x4)] [.int s3, .int s2, .int s1, .ref 0] σ mc ms P := by
  refine ka_aload_n d_L_law_594 rfl rfl 3 rfl ?_
  exact k1
theorem cs_L_law_595 {L : Nat} {xs : Nat → Int32} {σ : ks_St} {mc ms : Nat} {P : ka_O → ks_St → Prop} {f : Int32 → ks_St → Prop} {x4 : Int32} {s1 : Int32} {s2 : Int32} {s3 : Int32} (hK : ks_M L xs mL_extend rm_L_extend [.ref 0, .int s1, .int s2, .int s3, .ref 29] σ (pi_ f)) (kr : ∀ r σ', f r σ' → ks_W L xs mL_law rm_L_law 598 [(0, .ref ka_S), (1, .ref 0), (2, .ref 17), (3, .ref 29), (4, .int x4)] [.int r] σ' mc ms P) : ks_W L xs mL_law rm_L_law 595 [(0, .ref ka_S), (1, .ref 0), (2, .ref 17), (3, .ref 29), (4, .int x4)] [.ref 29, .int s3, .int s2, .int s1, .ref 0] σ (mc + 3) (ms + 18) P := by
  refine ks_callSX (q := 598) (As := [.ref 0, .int s1, .int s2, .int s3, .ref 29]) (st := []) d_L_law_595 rfl rfl lk_L_105 ⟨by decide, by decide⟩ (Nat.le_of_ble_eq_true rfl) ⟨Nat.le_refl _, Nat.le_refl _⟩ hK (fun v σ' hq => ?_) (fun E σ' hq => ?_)
  · obtain ⟨r, e, hf⟩ := hq; cases e; exact kr r σ' hf
  · obtain ⟨r, e, hf⟩ := hq; cases e
theorem sg_L_law_598 {L : Nat} {xs : Nat → Int32} {σ : ks_St} {mc ms : Nat} {P : ka_O → ks_St → Prop} {x4 : Int32} {s0 : Int32}  (v1 : vp_in (x4 + 1) L) (v2 : vp_in (x4 + 2) L) (v3 : vp_in (x4 + 3) L) (k5 : ((xs (x4 + 3).toNatClampNeg) = 0) → ks_W L xs mL_law rm_L_law 627 [(0, .ref ka_S), (1, .ref 0), (2, .ref 17), (3, .ref 29), (4, .int x4), (5, .int s0)] [.int 0, .int (xs (x4 + 2).toNatClampNeg), .int (xs (x4 + 1).toNatClampNeg), .ref 17] σ mc ms P) (k6 : (¬ ((xs (x4 + 3).toNatClampNeg) = 0)) → ks_W L xs mL_law rm_L_law 627 [(0, .ref ka_S), (1, .ref 0), (2, .ref 17), (3, .ref 29), (4, .int x4), (5, .int s0)] [.int 1, .int (xs (x4 + 2).toNatClampNeg), .int (xs (x4 + 1).toNatClampNeg), .ref 17] σ mc ms P) : ks_W L xs mL_law rm_L_law 598 [(0, .ref ka_S), (1, .ref 0), (2, .ref 17), (3, .ref 29), (4, .int x4)] [.int s0] σ mc ms P := by
  refine ka_istore (ls' := [(5, .int s0), (0, .ref ka_S), (1, .ref 0), (2, .ref 17), (3, .ref 29), (4, .int x4)]) d_L_law_598 rfl (by decide) rfl ?_
  refine ka_aload_n d_L_law_600 rfl rfl 3 rfl ?_
  refine ka_aload_n d_L_law_601 rfl rfl 1 rfl ?_
  refine ka_iload d_L_law_602 rfl 5 rfl ?_
  refine ka_iconst (v := 1) d_L_law_604 rfl (by decide) ?_
  refine ka_iadd d_L_law_605 rfl ?_
  refine ka_sld d_L_law_606 rfl v1 ?_
  refine ka_aload_n d_L_law_607 rfl rfl 1 rfl ?_
  refine ka_iload d_L_law_608 rfl 5 rfl ?_
  refine ka_iconst (v := 2) d_L_law_610 rfl (by decide) ?_
  refine ka_iadd d_L_law_611 rfl ?_
  refine ka_sld d_L_law_612 rfl v2 ?_
  refine ka_aload_n d_L_law_613 rfl rfl 1 rfl ?_
  refine ka_iload d_L_law_614 rfl 5 rfl ?_
  refine ka_iconst (v := 3) d_L_law_616 rfl (by decide) ?_
  refine ka_iadd d_L_law_617 rfl ?_
  refine ka_sld d_L_law_618 rfl v3 ?_
  refine ka_if_eq (tgt := 626) d_L_law_619 (by decide) rfl (fun c4 => ?_) (fun c4 => ?_)
  · refine ka_iconst (v := 0) d_L_law_626 rfl (by decide) ?_
    refine ka_sub [1, 2, 3, 4, 5, 0] rfl ?_
    exact (k5 c4)
  · refine ka_iconst (v := 1) d_L_law_622 rfl (by decide) ?_
    refine ka_goto (q := 627) d_L_law_623 (by decide) ?_
    refine ka_sub [1, 2, 3, 4, 5, 0] rfl ?_
    exact (k6 c4)
theorem cs_L_law_627 {L : Nat} {xs : Nat → Int32} {σ : ks_St} {mc ms : Nat} {P : ka_O → ks_St → Prop} {f : Int32 → ks_St → Prop} {x4 : Int32} {x5 : Int32} {s1 : Int32} {s2 : Int32} {s3 : Int32} (hK : ks_M L xs mX5_extend rm_X5_extend [.ref 17, .int s1, .int s2, .int s3] σ (pi_ f)) (kr : ∀ r σ', f r σ' → ks_W L xs mL_law rm_L_law 630 [(0, .ref ka_S), (1, .ref 0), (2, .ref 17), (3, .ref 29), (4, .int x4), (5, .int x5)] [.int r] σ' mc ms P) : ks_W L xs mL_law rm_L_law 627 [(0, .ref ka_S), (1, .ref 0), (2, .ref 17), (3, .ref 29), (4, .int x4), (5, .int x5)] [.int s3, .int s2, .int s1, .ref 17] σ mc ms P := by
  refine ks_callV (q := 630) (o := 17) (ci := 5) (As := [.int s1, .int s2, .int s3]) (st := []) d_L_law_627 rfl rfl (by decide) rfl rfl lk_L_108 ⟨by decide, by decide⟩ (Nat.le_of_ble_eq_true rfl) ⟨Nat.le_refl _, Nat.le_refl _⟩ hK (fun v σ' hq => ?_) (fun E σ' hq => ?_)
  · obtain ⟨r, e, hf⟩ := hq; cases e; exact kr r σ' hf
  · obtain ⟨r, e, hf⟩ := hq; cases e
theorem sg_L_law_630 {L : Nat} {xs : Nat → Int32} {σ : ks_St} {mc ms : Nat} {P : ka_O → ks_St → Prop} {x4 : Int32} {x5 : Int32} {s0 : Int32}  (k1 : ks_W L xs mL_law rm_L_law 633 [(0, .ref ka_S), (1, .ref 0), (2, .ref 17), (3, .ref 29), (4, .int x4), (5, .int x5), (6, .int s0)] [.ref 17] σ mc ms P) : ks_W L xs mL_law rm_L_law 630 [(0, .ref ka_S), (1, .ref 0), (2, .ref 17), (3, .ref 29), (4, .int x4), (5, .int x5)] [.int s0] σ mc ms P := by
  refine ka_istore (ls' := [(6, .int s0), (0, .ref ka_S), (1, .ref 0), (2, .ref 17), (3, .ref 29), (4, .int x4), (5, .int x5)]) d_L_law_630 rfl (by decide) rfl ?_
  refine ka_aload_n d_L_law_632 rfl rfl 3 rfl ?_
  refine ka_sub [1, 2, 3, 4, 5, 6, 0] rfl ?_
  exact k1
theorem cs_L_law_633 {L : Nat} {xs : Nat → Int32} {σ : ks_St} {mc ms : Nat} {P : ka_O → ks_St → Prop} {f : Int32 → ks_St → Prop} {x4 : Int32} {x5 : Int32} {x6 : Int32} (hK : ks_M L xs mX5_thrown rm_X5_thrown [.ref 17] σ (pi_ f)) (kr : ∀ r σ', f r σ' → ks_W L xs mL_law rm_L_law 636 [(0, .ref ka_S), (1, .ref 0), (2, .ref 17), (3, .ref 29), (4, .int x4), (5, .int x5), (6, .int x6)] [.int r] σ' mc ms P) : ks_W L xs mL_law rm_L_law 633 [(0, .ref ka_S), (1, .ref 0), (2, .ref 17), (3, .ref 29), (4, .int x4), (5, .int x5), (6, .int x6)] [.ref 17] σ mc ms P := by
  refine ks_callV (q := 636) (o := 17) (ci := 5) (As := []) (st := []) d_L_law_633 rfl rfl (by decide) rfl rfl lk_L_81 ⟨by decide, by decide⟩ (Nat.le_of_ble_eq_true rfl) ⟨Nat.le_refl _, Nat.le_refl _⟩ hK (fun v σ' hq => ?_) (fun E σ' hq => ?_)
  · obtain ⟨r, e, hf⟩ := hq; cases e; exact kr r σ' hf
  · obtain ⟨r, e, hf⟩ := hq; cases e
theorem sg_L_law_636 {L : Nat} {xs : Nat → Int32} {σ : ks_St} {mc ms : Nat} {P : ka_O → ks_St → Prop} {x4 : Int32} {x5 : Int32} {x6 : Int32} {s0 : Int32}  (k3 : (s0 = x5) → (¬ x5 = 0) → ks_W L xs mL_law rm_L_law 660 [(0, .ref ka_S), (1, .ref 0), (2, .ref 17), (3, .ref 29), (4, .int x4)] [] σ mc ms P) (k5 : (s0 = x5) → (x5 = 0) → ((lg_cmp (sg_ σ 29 (0 : Int32).toNatClampNeg) (x6.toInt64)) = 0) → ks_W L xs mL_law rm_L_law 660 [(0, .ref ka_S), (1, .ref 0), (2, .ref 17), (3, .ref 29), (4, .int x4)] [] σ mc ms P) (r6 : (s0 = x5) → (x5 = 0) → (¬ ((lg_cmp (sg_ σ 29 (0 : Int32).toNatClampNeg) (x6.toInt64)) = 0)) → P (.inl (some (.int 0))) σ) (r7 : (¬ (s0 = x5)) → P (.inl (some (.int 0))) σ) : ks_W L xs mL_law rm_L_law 636 [(0, .ref ka_S), (1, .ref 0), (2, .ref 17), (3, .ref 29), (4, .int x4), (5, .int x5), (6, .int x6)] [.int s0] σ mc ms P := by
  refine ka_iload d_L_law_636 rfl 5 rfl ?_
  refine ka_icmp_eq (tgt := 643) d_L_law_638 (by decide) rfl (fun c1 => ?_) (fun c1 => ?_)
  · refine ka_iload d_L_law_643 rfl 5 rfl ?_
    refine ka_if_ne (tgt := 660) d_L_law_645 (by decide) rfl (fun c2 => ?_) (fun c2 => ?_)
    · refine ka_sub [0, 1, 2, 3, 4] rfl ?_
      exact (k3 c1 c2)
    · refine ka_aload_n d_L_law_648 rfl rfl 3 rfl ?_
      refine ka_iconst (v := 0) d_L_law_649 rfl (by decide) ?_
      refine ks_lald row_29 d_L_law_650 rfl (by unfold vp_in; decide) ?_
      refine ka_iload d_L_law_651 rfl 6 rfl ?_
      refine ka_i2l d_L_law_653 rfl ?_
      refine ka_lcmp d_L_law_654 rfl ?_
      refine ka_if_eq (tgt := 660) d_L_law_655 (by decide) rfl (fun c4 => ?_) (fun c4 => ?_)
      · refine ka_sub [0, 1, 2, 3, 4] rfl ?_
        exact (k5 c1 c2 c4)
      · refine ka_iconst (v := 0) d_L_law_658 rfl (by decide) ?_
        exact ks_iret (ty := .boolean) d_L_law_659 rfl rfl (r6 c1 c2 c4)
  · refine ka_iconst (v := 0) d_L_law_641 rfl (by decide) ?_
    exact ks_iret (ty := .boolean) d_L_law_642 rfl rfl (r7 c1)
theorem sg_L_law_660 {L : Nat} {xs : Nat → Int32} {σ : ks_St} {mc ms : Nat} {P : ka_O → ks_St → Prop} {x4 : Int32}  (k1 : ks_W L xs mL_law rm_L_law 1118 [(0, .ref ka_S), (1, .ref 0), (2, .ref 17), (3, .ref 29), (4, .int x4)] [] σ mc ms P) : ks_W L xs mL_law rm_L_law 660 [(0, .ref ka_S), (1, .ref 0), (2, .ref 17), (3, .ref 29), (4, .int x4)] [] σ mc ms P := by
  refine ka_goto (q := 1118) d_L_law_660 (by decide) ?_
  exact k1
theorem sg_L_law_690 {L : Nat} {xs : Nat → Int32} {σ : ks_St} {mc ms : Nat} {P : ka_O → ks_St → Prop} {x4 : Int32} {s1 : Int32} {s2 : Int32} {s3 : Int32}  (k1 : ks_W L xs mL_law rm_L_law 691 [(0, .ref ka_S), (1, .ref 0), (2, .ref 17), (3, .ref 29), (4, .int x4)] [.ref 29, .int s3, .int s2, .int s1, .ref 0] σ mc ms P) : ks_W L xs mL_law rm_L_law 690 [(0, .ref ka_S), (1, .ref 0), (2, .ref 17), (3, .ref 29), (4, .int x4)] [.int s3, .int s2, .int s1, .ref 0] σ mc ms P := by
  refine ka_aload_n d_L_law_690 rfl rfl 3 rfl ?_
  exact k1
theorem cs_L_law_691 {L : Nat} {xs : Nat → Int32} {σ : ks_St} {mc ms : Nat} {P : ka_O → ks_St → Prop} {f : Int32 → ks_St → Prop} {x4 : Int32} {s1 : Int32} {s2 : Int32} {s3 : Int32} (hK : ks_M L xs mL_compare rm_L_compare [.ref 0, .int s1, .int s2, .int s3, .ref 29] σ (pi_ f)) (kr : ∀ r σ', f r σ' → ks_W L xs mL_law rm_L_law 694 [(0, .ref ka_S), (1, .ref 0), (2, .ref 17), (3, .ref 29), (4, .int x4)] [.int r] σ' mc ms P) : ks_W L xs mL_law rm_L_law 691 [(0, .ref ka_S), (1, .ref 0), (2, .ref 17), (3, .ref 29), (4, .int x4)] [.ref 29, .int s3, .int s2, .int s1, .ref 0] σ (mc + 3) (ms + 18) P := by
  refine ks_callSX (q := 694) (As := [.ref 0, .int s1, .int s2, .int s3, .ref 29]) (st := []) d_L_law_691 rfl rfl lk_L_109 ⟨by decide, by decide⟩ (Nat.le_of_ble_eq_true rfl) ⟨Nat.le_refl _, Nat.le_refl _⟩ hK (fun v σ' hq => ?_) (fun E σ' hq => ?_)
  · obtain ⟨r, e, hf⟩ := hq; cases e; exact kr r σ' hf
  · obtain ⟨r, e, hf⟩ := hq; cases e
theorem sg_L_law_694 {L : Nat} {xs : Nat → Int32} {σ : ks_St} {mc ms : Nat} {P : ka_O → ks_St → Prop} {x4 : Int32} {s0 : Int32}  (v1 : vp_in (x4 + 1) L) (v2 : vp_in (x4 + 2) L) (v3 : vp_in (x4 + 3) L) (k5 : ((xs (x4 + 3).toNatClampNeg) = 0) → ks_W L xs mL_law rm_L_law 723 [(0, .ref ka_S), (1, .ref 0), (2, .ref 17), (3, .ref 29), (4, .int x4), (5, .int s0)] [.int 0, .int (xs (x4 + 2).toNatClampNeg), .int (xs (x4 + 1).toNatClampNeg), .ref 17] σ mc ms P) (k6 : (¬ ((xs (x4 + 3).toNatClampNeg) = 0)) → ks_W L xs mL_law rm_L_law 723 [(0, .ref ka_S), (1, .ref 0), (2, .ref 17), (3, .ref 29), (4, .int x4), (5, .int s0)] [.int 1, .int (xs (x4 + 2).toNatClampNeg), .int (xs (x4 + 1).toNatClampNeg), .ref 17] σ mc ms P) : ks_W L xs mL_law rm_L_law 694 [(0, .ref ka_S), (1, .ref 0), (2, .ref 17), (3, .ref 29), (4, .int x4)] [.int s0] σ mc ms P := by
  refine ka_istore (ls' := [(5, .int s0), (0, .ref ka_S), (1, .ref 0), (2, .ref 17), (3, .ref 29), (4, .int x4)]) d_L_law_694 rfl (by decide) rfl ?_
  refine ka_aload_n d_L_law_696 rfl rfl 3 rfl ?_
  refine ka_aload_n d_L_law_697 rfl rfl 1 rfl ?_
  refine ka_iload d_L_law_698 rfl 5 rfl ?_
  refine ka_iconst (v := 1) d_L_law_700 rfl (by decide) ?_
  refine ka_iadd d_L_law_701 rfl ?_
  refine ka_sld d_L_law_702 rfl v1 ?_
  refine ka_aload_n d_L_law_703 rfl rfl 1 rfl ?_
  refine ka_iload d_L_law_704 rfl 5 rfl ?_
  refine ka_iconst (v := 2) d_L_law_706 rfl (by decide) ?_
  refine ka_iadd d_L_law_707 rfl ?_
  refine ka_sld d_L_law_708 rfl v2 ?_
  refine ka_aload_n d_L_law_709 rfl rfl 1 rfl ?_
  refine ka_iload d_L_law_710 rfl 5 rfl ?_
  refine ka_iconst (v := 3) d_L_law_712 rfl (by decide) ?_
  refine ka_iadd d_L_law_713 rfl ?_
  refine ka_sld d_L_law_714 rfl v3 ?_
  refine ka_if_eq (tgt := 722) d_L_law_715 (by decide) rfl (fun c4 => ?_) (fun c4 => ?_)
  · refine ka_iconst (v := 0) d_L_law_722 rfl (by decide) ?_
    refine ka_sub [1, 2, 3, 4, 5, 0] rfl ?_
    exact (k5 c4)
  · refine ka_iconst (v := 1) d_L_law_718 rfl (by decide) ?_
    refine ka_goto (q := 723) d_L_law_719 (by decide) ?_
    refine ka_sub [1, 2, 3, 4, 5, 0] rfl ?_
    exact (k6 c4)
theorem cs_L_law_723 {L : Nat} {xs : Nat → Int32} {σ : ks_St} {mc ms : Nat} {P : ka_O → ks_St → Prop} {f : Int32 → ks_St → Prop} {x4 : Int32} {x5 : Int32} {s1 : Int32} {s2 : Int32} {s3 : Int32} (hK : ks_M L xs mX5_compare rm_X5_compare [.ref 17, .int s1, .int s2, .int s3] σ (pi_ f)) (kr : ∀ r σ', f r σ' → ks_W L xs mL_law rm_L_law 726 [(0, .ref ka_S), (1, .ref 0), (2, .ref 17), (3, .ref 29), (4, .int x4), (5, .int x5)] [.int r] σ' mc ms P) : ks_W L xs mL_law rm_L_law 723 [(0, .ref ka_S), (1, .ref 0), (2, .ref 17), (3, .ref 29), (4, .int x4), (5, .int x5)] [.int s3, .int s2, .int s1, .ref 17] σ mc ms P := by
  refine ks_callV (q := 726) (o := 17) (ci := 5) (As := [.int s1, .int s2, .int s3]) (st := []) d_L_law_723 rfl rfl (by decide) rfl rfl lk_L_111 ⟨by decide, by decide⟩ (Nat.le_of_ble_eq_true rfl) ⟨Nat.le_refl _, Nat.le_refl _⟩ hK (fun v σ' hq => ?_) (fun E σ' hq => ?_)
  · obtain ⟨r, e, hf⟩ := hq; cases e; exact kr r σ' hf
  · obtain ⟨r, e, hf⟩ := hq; cases e
theorem sg_L_law_726 {L : Nat} {xs : Nat → Int32} {σ : ks_St} {mc ms : Nat} {P : ka_O → ks_St → Prop} {x4 : Int32} {x5 : Int32} {s0 : Int32}  (k1 : ks_W L xs mL_law rm_L_law 729 [(0, .ref ka_S), (1, .ref 0), (2, .ref 17), (3, .ref 29), (4, .int x4), (5, .int x5), (6, .int s0)] [.ref 17] σ mc ms P) : ks_W L xs mL_law rm_L_law 726 [(0, .ref ka_S), (1, .ref 0), (2, .ref 17), (3, .ref 29), (4, .int x4), (5, .int x5)] [.int s0] σ mc ms P := by
  refine ka_istore (ls' := [(6, .int s0), (0, .ref ka_S), (1, .ref 0), (2, .ref 17), (3, .ref 29), (4, .int x4), (5, .int x5)]) d_L_law_726 rfl (by decide) rfl ?_
  refine ka_aload_n d_L_law_728 rfl rfl 3 rfl ?_
  refine ka_sub [1, 2, 3, 4, 5, 6, 0] rfl ?_
  exact k1
theorem cs_L_law_729 {L : Nat} {xs : Nat → Int32} {σ : ks_St} {mc ms : Nat} {P : ka_O → ks_St → Prop} {f : Int32 → ks_St → Prop} {x4 : Int32} {x5 : Int32} {x6 : Int32} (hK : ks_M L xs mX5_thrown rm_X5_thrown [.ref 17] σ (pi_ f)) (kr : ∀ r σ', f r σ' → ks_W L xs mL_law rm_L_law 732 [(0, .ref ka_S), (1, .ref 0), (2, .ref 17), (3, .ref 29), (4, .int x4), (5, .int x5), (6, .int x6)] [.int r] σ' mc ms P) : ks_W L xs mL_law rm_L_law 729 [(0, .ref ka_S), (1, .ref 0), (2, .ref 17), (3, .ref 29), (4, .int x4), (5, .int x5), (6, .int x6)] [.ref 17] σ mc ms P := by
  refine ks_callV (q := 732) (o := 17) (ci := 5) (As := []) (st := []) d_L_law_729 rfl rfl (by decide) rfl rfl lk_L_81 ⟨by decide, by decide⟩ (Nat.le_of_ble_eq_true rfl) ⟨Nat.le_refl _, Nat.le_refl _⟩ hK (fun v σ' hq => ?_) (fun E σ' hq => ?_)
  · obtain ⟨r, e, hf⟩ := hq; cases e; exact kr r σ' hf
  · obtain ⟨r, e, hf⟩ := hq; cases e
theorem sg_L_law_732 {L : Nat} {xs : Nat → Int32} {σ : ks_St} {mc ms : Nat} {P : ka_O → ks_St → Prop} {x4 : Int32} {x5 : Int32} {x6 : Int32} {s0 : Int32}  (k3 : (s0 = x5) → (¬ x5 = 0) → ks_W L xs mL_law rm_L_law 756 [(0, .ref ka_S), (1, .ref 0), (2, .ref 17), (3, .ref 29), (4, .int x4)] [] σ mc ms P) (k5 : (s0 = x5) → (x5 = 0) → ((lg_cmp (sg_ σ 29 (0 : Int32).toNatClampNeg) (x6.toInt64)) = 0) → ks_W L xs mL_law rm_L_law 756 [(0, .ref ka_S), (1, .ref 0), (2, .ref 17), (3, .ref 29), (4, .int x4)] [] σ mc ms P) (r6 : (s0 = x5) → (x5 = 0) → (¬ ((lg_cmp (sg_ σ 29 (0 : Int32).toNatClampNeg) (x6.toInt64)) = 0)) → P (.inl (some (.int 0))) σ) (r7 : (¬ (s0 = x5)) → P (.inl (some (.int 0))) σ) : ks_W L xs mL_law rm_L_law 732 [(0, .ref ka_S), (1, .ref 0), (2, .ref 17), (3, .ref 29), (4, .int x4), (5, .int x5), (6, .int x6)] [.int s0] σ mc ms P := by
  refine ka_iload d_L_law_732 rfl 5 rfl ?_
  refine ka_icmp_eq (tgt := 739) d_L_law_734 (by decide) rfl (fun c1 => ?_) (fun c1 => ?_)
  · refine ka_iload d_L_law_739 rfl 5 rfl ?_
    refine ka_if_ne (tgt := 756) d_L_law_741 (by decide) rfl (fun c2 => ?_) (fun c2 => ?_)
    · refine ka_sub [0, 1, 2, 3, 4] rfl ?_
      exact (k3 c1 c2)
    · refine ka_aload_n d_L_law_744 rfl rfl 3 rfl ?_
      refine ka_iconst (v := 0) d_L_law_745 rfl (by decide) ?_
      refine ks_lald row_29 d_L_law_746 rfl (by unfold vp_in; decide) ?_
      refine ka_iload d_L_law_747 rfl 6 rfl ?_
      refine ka_i2l d_L_law_749 rfl ?_
      refine ka_lcmp d_L_law_750 rfl ?_
      refine ka_if_eq (tgt := 756) d_L_law_751 (by decide) rfl (fun c4 => ?_) (fun c4 => ?_)
      · refine ka_sub [0, 1, 2, 3, 4] rfl ?_
        exact (k5 c1 c2 c4)
      · refine ka_iconst (v := 0) d_L_law_754 rfl (by decide) ?_
        exact ks_iret (ty := .boolean) d_L_law_755 rfl rfl (r6 c1 c2 c4)
  · refine ka_iconst (v := 0) d_L_law_737 rfl (by decide) ?_
    exact ks_iret (ty := .boolean) d_L_law_738 rfl rfl (r7 c1)
theorem sg_L_law_756 {L : Nat} {xs : Nat → Int32} {σ : ks_St} {mc ms : Nat} {P : ka_O → ks_St → Prop} {x4 : Int32}  (k1 : ks_W L xs mL_law rm_L_law 1118 [(0, .ref ka_S), (1, .ref 0), (2, .ref 17), (3, .ref 29), (4, .int x4)] [] σ mc ms P) : ks_W L xs mL_law rm_L_law 756 [(0, .ref ka_S), (1, .ref 0), (2, .ref 17), (3, .ref 29), (4, .int x4)] [] σ mc ms P := by
  refine ka_goto (q := 1118) d_L_law_756 (by decide) ?_
  exact k1
theorem cs_L_law_773 {L : Nat} {xs : Nat → Int32} {σ : ks_St} {mc ms : Nat} {P : ka_O → ks_St → Prop} {f : Int32 → ks_St → Prop} {x4 : Int32} {s1 : Int32} {s2 : Int32} (hK : ks_M L xs mL_bit rm_L_bit [.ref 0, .int s1, .int s2, .ref 29] σ (pi_ f)) (kr : ∀ r σ', f r σ' → ks_W L xs mL_law rm_L_law 776 [(0, .ref ka_S), (1, .ref 0), (2, .ref 17), (3, .ref 29), (4, .int x4)] [.int r] σ' mc ms P) : ks_W L xs mL_law rm_L_law 773 [(0, .ref ka_S), (1, .ref 0), (2, .ref 17), (3, .ref 29), (4, .int x4)] [.ref 29, .int s2, .int s1, .ref 0] σ (mc + 2) (ms + 12) P := by
  refine ks_callSX (q := 776) (As := [.ref 0, .int s1, .int s2, .ref 29]) (st := []) d_L_law_773 rfl rfl lk_L_112 ⟨by decide, by decide⟩ (Nat.le_of_ble_eq_true rfl) ⟨Nat.le_refl _, Nat.le_refl _⟩ hK (fun v σ' hq => ?_) (fun E σ' hq => ?_)
  · obtain ⟨r, e, hf⟩ := hq; cases e; exact kr r σ' hf
  · obtain ⟨r, e, hf⟩ := hq; cases e
theorem sg_L_law_776 {L : Nat} {xs : Nat → Int32} {σ : ks_St} {mc ms : Nat} {P : ka_O → ks_St → Prop} {x4 : Int32} {s0 : Int32}  (v1 : vp_in (x4 + 1) L) (v2 : vp_in (x4 + 2) L) (k3 : ks_W L xs mL_law rm_L_law 791 [(0, .ref ka_S), (1, .ref 0), (2, .ref 17), (3, .ref 29), (4, .int x4), (5, .int s0)] [.int (xs (x4 + 2).toNatClampNeg), .int (xs (x4 + 1).toNatClampNeg), .ref 17] σ mc ms P) : ks_W L xs mL_law rm_L_law 776 [(0, .ref ka_S), (1, .ref 0), (2, .ref 17), (3, .ref 29), (4, .int x4)] [.int s0] σ mc ms P := by
  refine ka_istore (ls' := [(5, .int s0), (0, .ref ka_S), (1, .ref 0), (2, .ref 17), (3, .ref 29), (4, .int x4)]) d_L_law_776 rfl (by decide) rfl ?_
  refine ka_aload_n d_L_law_778 rfl rfl 3 rfl ?_
  refine ka_aload_n d_L_law_779 rfl rfl 1 rfl ?_
  refine ka_iload d_L_law_780 rfl 5 rfl ?_
  refine ka_iconst (v := 1) d_L_law_782 rfl (by decide) ?_
  refine ka_iadd d_L_law_783 rfl ?_
  refine ka_sld d_L_law_784 rfl v1 ?_
  refine ka_aload_n d_L_law_785 rfl rfl 1 rfl ?_
  refine ka_iload d_L_law_786 rfl 5 rfl ?_
  refine ka_iconst (v := 2) d_L_law_788 rfl (by decide) ?_
  refine ka_iadd d_L_law_789 rfl ?_
  refine ka_sld d_L_law_790 rfl v2 ?_
  refine ka_sub [1, 2, 3, 4, 5, 0] rfl ?_
  exact k3
theorem cs_L_law_791 {L : Nat} {xs : Nat → Int32} {σ : ks_St} {mc ms : Nat} {P : ka_O → ks_St → Prop} {f : Int32 → ks_St → Prop} {x4 : Int32} {x5 : Int32} {s1 : Int32} {s2 : Int32} (hK : ks_M L xs mX5_bit rm_X5_bit [.ref 17, .int s1, .int s2] σ (pi_ f)) (kr : ∀ r σ', f r σ' → ks_W L xs mL_law rm_L_law 794 [(0, .ref ka_S), (1, .ref 0), (2, .ref 17), (3, .ref 29), (4, .int x4), (5, .int x5)] [.int r] σ' mc ms P) : ks_W L xs mL_law rm_L_law 791 [(0, .ref ka_S), (1, .ref 0), (2, .ref 17), (3, .ref 29), (4, .int x4), (5, .int x5)] [.int s2, .int s1, .ref 17] σ mc ms P := by
  refine ks_callV (q := 794) (o := 17) (ci := 5) (As := [.int s1, .int s2]) (st := []) d_L_law_791 rfl rfl (by decide) rfl rfl lk_L_114 ⟨by decide, by decide⟩ (Nat.le_of_ble_eq_true rfl) ⟨Nat.le_refl _, Nat.le_refl _⟩ hK (fun v σ' hq => ?_) (fun E σ' hq => ?_)
  · obtain ⟨r, e, hf⟩ := hq; cases e; exact kr r σ' hf
  · obtain ⟨r, e, hf⟩ := hq; cases e
theorem sg_L_law_794 {L : Nat} {xs : Nat → Int32} {σ : ks_St} {mc ms : Nat} {P : ka_O → ks_St → Prop} {x4 : Int32} {x5 : Int32} {s0 : Int32}  (k1 : ks_W L xs mL_law rm_L_law 797 [(0, .ref ka_S), (1, .ref 0), (2, .ref 17), (3, .ref 29), (4, .int x4), (5, .int x5), (6, .int s0)] [.ref 17] σ mc ms P) : ks_W L xs mL_law rm_L_law 794 [(0, .ref ka_S), (1, .ref 0), (2, .ref 17), (3, .ref 29), (4, .int x4), (5, .int x5)] [.int s0] σ mc ms P := by
  refine ka_istore (ls' := [(6, .int s0), (0, .ref ka_S), (1, .ref 0), (2, .ref 17), (3, .ref 29), (4, .int x4), (5, .int x5)]) d_L_law_794 rfl (by decide) rfl ?_
  refine ka_aload_n d_L_law_796 rfl rfl 3 rfl ?_
  refine ka_sub [1, 2, 3, 4, 5, 6, 0] rfl ?_
  exact k1
theorem cs_L_law_797 {L : Nat} {xs : Nat → Int32} {σ : ks_St} {mc ms : Nat} {P : ka_O → ks_St → Prop} {f : Int32 → ks_St → Prop} {x4 : Int32} {x5 : Int32} {x6 : Int32} (hK : ks_M L xs mX5_thrown rm_X5_thrown [.ref 17] σ (pi_ f)) (kr : ∀ r σ', f r σ' → ks_W L xs mL_law rm_L_law 800 [(0, .ref ka_S), (1, .ref 0), (2, .ref 17), (3, .ref 29), (4, .int x4), (5, .int x5), (6, .int x6)] [.int r] σ' mc ms P) : ks_W L xs mL_law rm_L_law 797 [(0, .ref ka_S), (1, .ref 0), (2, .ref 17), (3, .ref 29), (4, .int x4), (5, .int x5), (6, .int x6)] [.ref 17] σ mc ms P := by
  refine ks_callV (q := 800) (o := 17) (ci := 5) (As := []) (st := []) d_L_law_797 rfl rfl (by decide) rfl rfl lk_L_81 ⟨by decide, by decide⟩ (Nat.le_of_ble_eq_true rfl) ⟨Nat.le_refl _, Nat.le_refl _⟩ hK (fun v σ' hq => ?_) (fun E σ' hq => ?_)
  · obtain ⟨r, e, hf⟩ := hq; cases e; exact kr r σ' hf
  · obtain ⟨r, e, hf⟩ := hq; cases e
theorem sg_L_law_800 {L : Nat} {xs : Nat → Int32} {σ : ks_St} {mc ms : Nat} {P : ka_O → ks_St → Prop} {x4 : Int32} {x5 : Int32} {x6 : Int32} {s0 : Int32}  (k3 : (s0 = x5) → (¬ x5 = 0) → ks_W L xs mL_law rm_L_law 831 [(0, .ref ka_S), (1, .ref 0), (2, .ref 17), (3, .ref 29), (4, .int x4)] [] σ mc ms P) (k5 : (s0 = x5) → (x5 = 0) → (x6 = 0) → ks_W L xs mL_law rm_L_law 825 [(0, .ref ka_S), (1, .ref 0), (2, .ref 17), (3, .ref 29), (4, .int x4)] [.long 0, .long (sg_ σ 29 (0 : Int32).toNatClampNeg)] σ mc ms P) (k6 : (s0 = x5) → (x5 = 0) → (¬ (x6 = 0)) → ks_W L xs mL_law rm_L_law 825 [(0, .ref ka_S), (1, .ref 0), (2, .ref 17), (3, .ref 29), (4, .int x4)] [.long 1, .long (sg_ σ 29 (0 : Int32).toNatClampNeg)] σ mc ms P) (r7 : (¬ (s0 = x5)) → P (.inl (some (.int 0))) σ) : ks_W L xs mL_law rm_L_law 800 [(0, .ref ka_S), (1, .ref 0), (2, .ref 17), (3, .ref 29), (4, .int x4), (5, .int x5), (6, .int x6)] [.int s0] σ mc ms P := by
  refine ka_iload d_L_law_800 rfl 5 rfl ?_
  refine ka_icmp_eq (tgt := 807) d_L_law_802 (by decide) rfl (fun c1 => ?_) (fun c1 => ?_)
  · refine ka_iload d_L_law_807 rfl 5 rfl ?_
    refine ka_if_ne (tgt := 831) d_L_law_809 (by decide) rfl (fun c2 => ?_) (fun c2 => ?_)
    · refine ka_sub [0, 1, 2, 3, 4] rfl ?_
      exact (k3 c1 c2)
    · refine ka_aload_n d_L_law_812 rfl rfl 3 rfl ?_
      refine ka_iconst (v := 0) d_L_law_813 rfl (by decide) ?_
      refine ks_lald row_29 d_L_law_814 rfl (by unfold vp_in; decide) ?_
      refine ka_iload d_L_law_815 rfl 6 rfl ?_
      refine ka_if_eq (tgt := 824) d_L_law_817 (by decide) rfl (fun c4 => ?_) (fun c4 => ?_)
      · refine ka_lconst (v := 0) d_L_law_824 rfl (by decide) ?_
        refine ka_sub [0, 1, 2, 3, 4] rfl ?_
        exact (k5 c1 c2 c4)
      · refine ka_lconst (v := 1) d_L_law_820 rfl (by decide) ?_
        refine ka_goto (q := 825) d_L_law_821 (by decide) ?_
        refine ka_sub [0, 1, 2, 3, 4] rfl ?_
        exact (k6 c1 c2 c4)
  · refine ka_iconst (v := 0) d_L_law_805 rfl (by decide) ?_
    exact ks_iret (ty := .boolean) d_L_law_806 rfl rfl (r7 c1)
theorem sg_L_law_825 {L : Nat} {xs : Nat → Int32} {σ : ks_St} {mc ms : Nat} {P : ka_O → ks_St → Prop} {x4 : Int32} {s0 : Int64} {s1 : Int64}  (k2 : ((lg_cmp s0 s1) = 0) → ks_W L xs mL_law rm_L_law 831 [(0, .ref ka_S), (1, .ref 0), (2, .ref 17), (3, .ref 29), (4, .int x4)] [] σ mc ms P) (r3 : (¬ ((lg_cmp s0 s1) = 0)) → P (.inl (some (.int 0))) σ) : ks_W L xs mL_law rm_L_law 825 [(0, .ref ka_S), (1, .ref 0), (2, .ref 17), (3, .ref 29), (4, .int x4)] [.long s1, .long s0] σ mc ms P := by
  refine ka_lcmp d_L_law_825 rfl ?_
  refine ka_if_eq (tgt := 831) d_L_law_826 (by decide) rfl (fun c1 => ?_) (fun c1 => ?_)
  · exact (k2 c1)
  · refine ka_iconst (v := 0) d_L_law_829 rfl (by decide) ?_
    exact ks_iret (ty := .boolean) d_L_law_830 rfl rfl (r3 c1)
theorem sg_L_law_831 {L : Nat} {xs : Nat → Int32} {σ : ks_St} {mc ms : Nat} {P : ka_O → ks_St → Prop} {x4 : Int32}  (k1 : ks_W L xs mL_law rm_L_law 1118 [(0, .ref ka_S), (1, .ref 0), (2, .ref 17), (3, .ref 29), (4, .int x4)] [] σ mc ms P) : ks_W L xs mL_law rm_L_law 831 [(0, .ref ka_S), (1, .ref 0), (2, .ref 17), (3, .ref 29), (4, .int x4)] [] σ mc ms P := by
  refine ka_goto (q := 1118) d_L_law_831 (by decide) ?_
  exact k1
theorem cs_L_law_848 {L : Nat} {xs : Nat → Int32} {σ : ks_St} {mc ms : Nat} {P : ka_O → ks_St → Prop} {f : Int32 → ks_St → Prop} {x4 : Int32} {s1 : Int32} {s2 : Int32} (hK : ks_M L xs mL_limb rm_L_limb [.ref 0, .int s1, .int s2, .ref 29] σ (pi_ f)) (kr : ∀ r σ', f r σ' → ks_W L xs mL_law rm_L_law 851 [(0, .ref ka_S), (1, .ref 0), (2, .ref 17), (3, .ref 29), (4, .int x4)] [.int r] σ' mc ms P) : ks_W L xs mL_law rm_L_law 848 [(0, .ref ka_S), (1, .ref 0), (2, .ref 17), (3, .ref 29), (4, .int x4)] [.ref 29, .int s2, .int s1, .ref 0] σ (mc + 2) (ms + 12) P := by
  refine ks_callSX (q := 851) (As := [.ref 0, .int s1, .int s2, .ref 29]) (st := []) d_L_law_848 rfl rfl lk_L_115 ⟨by decide, by decide⟩ (Nat.le_of_ble_eq_true rfl) ⟨Nat.le_refl _, Nat.le_refl _⟩ hK (fun v σ' hq => ?_) (fun E σ' hq => ?_)
  · obtain ⟨r, e, hf⟩ := hq; cases e; exact kr r σ' hf
  · obtain ⟨r, e, hf⟩ := hq; cases e
theorem sg_L_law_851 {L : Nat} {xs : Nat → Int32} {σ : ks_St} {mc ms : Nat} {P : ka_O → ks_St → Prop} {x4 : Int32} {s0 : Int32}  (v1 : vp_in (x4 + 1) L) (v2 : vp_in (x4 + 2) L) (k3 : ks_W L xs mL_law rm_L_law 866 [(0, .ref ka_S), (1, .ref 0), (2, .ref 17), (3, .ref 29), (4, .int x4), (5, .int s0)] [.int (xs (x4 + 2).toNatClampNeg), .int (xs (x4 + 1).toNatClampNeg), .ref 17] σ mc ms P) : ks_W L xs mL_law rm_L_law 851 [(0, .ref ka_S), (1, .ref 0), (2, .ref 17), (3, .ref 29), (4, .int x4)] [.int s0] σ mc ms P := by
  refine ka_istore (ls' := [(5, .int s0), (0, .ref ka_S), (1, .ref 0), (2, .ref 17), (3, .ref 29), (4, .int x4)]) d_L_law_851 rfl (by decide) rfl ?_
  refine ka_aload_n d_L_law_853 rfl rfl 3 rfl ?_
  refine ka_aload_n d_L_law_854 rfl rfl 1 rfl ?_
  refine ka_iload d_L_law_855 rfl 5 rfl ?_
  refine ka_iconst (v := 1) d_L_law_857 rfl (by decide) ?_
  refine ka_iadd d_L_law_858 rfl ?_
  refine ka_sld d_L_law_859 rfl v1 ?_
  refine ka_aload_n d_L_law_860 rfl rfl 1 rfl ?_
  refine ka_iload d_L_law_861 rfl 5 rfl ?_
  refine ka_iconst (v := 2) d_L_law_863 rfl (by decide) ?_
  refine ka_iadd d_L_law_864 rfl ?_
  refine ka_sld d_L_law_865 rfl v2 ?_
  refine ka_sub [1, 2, 3, 4, 5, 0] rfl ?_
  exact k3
theorem cs_L_law_866 {L : Nat} {xs : Nat → Int32} {σ : ks_St} {mc ms : Nat} {P : ka_O → ks_St → Prop} {f : Int64 → ks_St → Prop} {x4 : Int32} {x5 : Int32} {s1 : Int32} {s2 : Int32} (hK : ks_M L xs mX5_limb rm_X5_limb [.ref 17, .int s1, .int s2] σ (pl_ f)) (kr : ∀ r σ', f r σ' → ks_W L xs mL_law rm_L_law 869 [(0, .ref ka_S), (1, .ref 0), (2, .ref 17), (3, .ref 29), (4, .int x4), (5, .int x5)] [.long r] σ' mc ms P) : ks_W L xs mL_law rm_L_law 866 [(0, .ref ka_S), (1, .ref 0), (2, .ref 17), (3, .ref 29), (4, .int x4), (5, .int x5)] [.int s2, .int s1, .ref 17] σ mc ms P := by
  refine ks_callV (q := 869) (o := 17) (ci := 5) (As := [.int s1, .int s2]) (st := []) d_L_law_866 rfl rfl (by decide) rfl rfl lk_L_117 ⟨by decide, by decide⟩ (Nat.le_of_ble_eq_true rfl) ⟨Nat.le_refl _, Nat.le_refl _⟩ hK (fun v σ' hq => ?_) (fun E σ' hq => ?_)
  · obtain ⟨r, e, hf⟩ := hq; cases e; exact kr r σ' hf
  · obtain ⟨r, e, hf⟩ := hq; cases e
theorem sg_L_law_869 {L : Nat} {xs : Nat → Int32} {σ : ks_St} {mc ms : Nat} {P : ka_O → ks_St → Prop} {x4 : Int32} {x5 : Int32} {s0 : Int64}  (k1 : ks_W L xs mL_law rm_L_law 872 [(0, .ref ka_S), (1, .ref 0), (2, .ref 17), (3, .ref 29), (4, .int x4), (5, .int x5), (6, .long s0)] [.ref 17] σ mc ms P) : ks_W L xs mL_law rm_L_law 869 [(0, .ref ka_S), (1, .ref 0), (2, .ref 17), (3, .ref 29), (4, .int x4), (5, .int x5)] [.long s0] σ mc ms P := by
  refine ka_lstore (ls' := [(6, .long s0), (0, .ref ka_S), (1, .ref 0), (2, .ref 17), (3, .ref 29), (4, .int x4), (5, .int x5)]) d_L_law_869 rfl (by decide) rfl ?_
  refine ka_aload_n d_L_law_871 rfl rfl 3 rfl ?_
  refine ka_sub [1, 2, 3, 4, 5, 6, 0] rfl ?_
  exact k1
theorem cs_L_law_872 {L : Nat} {xs : Nat → Int32} {σ : ks_St} {mc ms : Nat} {P : ka_O → ks_St → Prop} {f : Int32 → ks_St → Prop} {x4 : Int32} {x5 : Int32} {x6 : Int64} (hK : ks_M L xs mX5_thrown rm_X5_thrown [.ref 17] σ (pi_ f)) (kr : ∀ r σ', f r σ' → ks_W L xs mL_law rm_L_law 875 [(0, .ref ka_S), (1, .ref 0), (2, .ref 17), (3, .ref 29), (4, .int x4), (5, .int x5), (6, .long x6)] [.int r] σ' mc ms P) : ks_W L xs mL_law rm_L_law 872 [(0, .ref ka_S), (1, .ref 0), (2, .ref 17), (3, .ref 29), (4, .int x4), (5, .int x5), (6, .long x6)] [.ref 17] σ mc ms P := by
  refine ks_callV (q := 875) (o := 17) (ci := 5) (As := []) (st := []) d_L_law_872 rfl rfl (by decide) rfl rfl lk_L_81 ⟨by decide, by decide⟩ (Nat.le_of_ble_eq_true rfl) ⟨Nat.le_refl _, Nat.le_refl _⟩ hK (fun v σ' hq => ?_) (fun E σ' hq => ?_)
  · obtain ⟨r, e, hf⟩ := hq; cases e; exact kr r σ' hf
  · obtain ⟨r, e, hf⟩ := hq; cases e
theorem sg_L_law_875 {L : Nat} {xs : Nat → Int32} {σ : ks_St} {mc ms : Nat} {P : ka_O → ks_St → Prop} {x4 : Int32} {x5 : Int32} {x6 : Int64} {s0 : Int32}  (k3 : (s0 = x5) → (¬ x5 = 0) → ks_W L xs mL_law rm_L_law 898 [(0, .ref ka_S), (1, .ref 0), (2, .ref 17), (3, .ref 29), (4, .int x4)] [] σ mc ms P) (k5 : (s0 = x5) → (x5 = 0) → ((lg_cmp (sg_ σ 29 (0 : Int32).toNatClampNeg) x6) = 0) → ks_W L xs mL_law rm_L_law 898 [(0, .ref ka_S), (1, .ref 0), (2, .ref 17), (3, .ref 29), (4, .int x4)] [] σ mc ms P) (r6 : (s0 = x5) → (x5 = 0) → (¬ ((lg_cmp (sg_ σ 29 (0 : Int32).toNatClampNeg) x6) = 0)) → P (.inl (some (.int 0))) σ) (r7 : (¬ (s0 = x5)) → P (.inl (some (.int 0))) σ) : ks_W L xs mL_law rm_L_law 875 [(0, .ref ka_S), (1, .ref 0), (2, .ref 17), (3, .ref 29), (4, .int x4), (5, .int x5), (6, .long x6)] [.int s0] σ mc ms P := by
  refine ka_iload d_L_law_875 rfl 5 rfl ?_
  refine ka_icmp_eq (tgt := 882) d_L_law_877 (by decide) rfl (fun c1 => ?_) (fun c1 => ?_)
  · refine ka_iload d_L_law_882 rfl 5 rfl ?_
    refine ka_if_ne (tgt := 898) d_L_law_884 (by decide) rfl (fun c2 => ?_) (fun c2 => ?_)
    · refine ka_sub [0, 1, 2, 3, 4] rfl ?_
      exact (k3 c1 c2)
    · refine ka_aload_n d_L_law_887 rfl rfl 3 rfl ?_
      refine ka_iconst (v := 0) d_L_law_888 rfl (by decide) ?_
      refine ks_lald row_29 d_L_law_889 rfl (by unfold vp_in; decide) ?_
      refine ka_lload d_L_law_890 rfl 6 rfl ?_
      refine ka_lcmp d_L_law_892 rfl ?_
      refine ka_if_eq (tgt := 898) d_L_law_893 (by decide) rfl (fun c4 => ?_) (fun c4 => ?_)
      · refine ka_sub [0, 1, 2, 3, 4] rfl ?_
        exact (k5 c1 c2 c4)
      · refine ka_iconst (v := 0) d_L_law_896 rfl (by decide) ?_
        exact ks_iret (ty := .boolean) d_L_law_897 rfl rfl (r6 c1 c2 c4)
  · refine ka_iconst (v := 0) d_L_law_880 rfl (by decide) ?_
    exact ks_iret (ty := .boolean) d_L_law_881 rfl rfl (r7 c1)
theorem sg_L_law_898 {L : Nat} {xs : Nat → Int32} {σ : ks_St} {mc ms : Nat} {P : ka_O → ks_St → Prop} {x4 : Int32}  (k1 : ks_W L xs mL_law rm_L_law 1118 [(0, .ref ka_S), (1, .ref 0), (2, .ref 17), (3, .ref 29), (4, .int x4)] [] σ mc ms P) : ks_W L xs mL_law rm_L_law 898 [(0, .ref ka_S), (1, .ref 0), (2, .ref 17), (3, .ref 29), (4, .int x4)] [] σ mc ms P := by
  refine ka_goto (q := 1118) d_L_law_898 (by decide) ?_
  exact k1
theorem cs_L_law_927 {L : Nat} {xs : Nat → Int32} {σ : ks_St} {mc ms : Nat} {P : ka_O → ks_St → Prop} {f : Int32 → ks_St → Prop} {x4 : Int32} {s1 : Int32} {s2 : Int32} {s3 : Int32} {s4 : Int32} (hK : ks_M L xs mL_real rm_L_real [.ref 0, .int s1, .int s2, .int s3, .int s4, .ref 29] σ (pi_ f)) (kr : ∀ r σ', f r σ' → ks_W L xs mL_law rm_L_law 930 [(0, .ref ka_S), (1, .ref 0), (2, .ref 17), (3, .ref 29), (4, .int x4)] [.int r] σ' mc ms P) : ks_W L xs mL_law rm_L_law 927 [(0, .ref ka_S), (1, .ref 0), (2, .ref 17), (3, .ref 29), (4, .int x4)] [.ref 29, .int s4, .int s3, .int s2, .int s1, .ref 0] σ (mc + 7) (ms + 42) P := by
  refine ks_callSX (q := 930) (As := [.ref 0, .int s1, .int s2, .int s3, .int s4, .ref 29]) (st := []) d_L_law_927 rfl rfl lk_L_118 ⟨by decide, by decide⟩ (Nat.le_of_ble_eq_true rfl) ⟨Nat.le_refl _, Nat.le_refl _⟩ hK (fun v σ' hq => ?_) (fun E σ' hq => ?_)
  · obtain ⟨r, e, hf⟩ := hq; cases e; exact kr r σ' hf
  · obtain ⟨r, e, hf⟩ := hq; cases e
theorem sg_L_law_930 {L : Nat} {xs : Nat → Int32} {σ : ks_St} {mc ms : Nat} {P : ka_O → ks_St → Prop} {x4 : Int32} {s0 : Int32}  (v1 : vp_in (x4 + 1) L) (v2 : vp_in (x4 + 2) L) (v3 : vp_in (x4 + 3) L) (v4 : vp_in (x4 + 4) L) (k5 : ks_W L xs mL_law rm_L_law 957 [(0, .ref ka_S), (1, .ref 0), (2, .ref 17), (3, .ref 29), (4, .int x4), (5, .int s0)] [.int (xs (x4 + 4).toNatClampNeg), .int (xs (x4 + 3).toNatClampNeg), .int (xs (x4 + 2).toNatClampNeg), .int (xs (x4 + 1).toNatClampNeg), .ref 17] σ mc ms P) : ks_W L xs mL_law rm_L_law 930 [(0, .ref ka_S), (1, .ref 0), (2, .ref 17), (3, .ref 29), (4, .int x4)] [.int s0] σ mc ms P := by
  refine ka_istore (ls' := [(5, .int s0), (0, .ref ka_S), (1, .ref 0), (2, .ref 17), (3, .ref 29), (4, .int x4)]) d_L_law_930 rfl (by decide) rfl ?_
  refine ka_aload_n d_L_law_932 rfl rfl 3 rfl ?_
  refine ka_aload_n d_L_law_933 rfl rfl 1 rfl ?_
  refine ka_iload d_L_law_934 rfl 5 rfl ?_
  refine ka_iconst (v := 1) d_L_law_936 rfl (by decide) ?_
  refine ka_iadd d_L_law_937 rfl ?_
  refine ka_sld d_L_law_938 rfl v1 ?_
  refine ka_aload_n d_L_law_939 rfl rfl 1 rfl ?_
  refine ka_iload d_L_law_940 rfl 5 rfl ?_
  refine ka_iconst (v := 2) d_L_law_942 rfl (by decide) ?_
  refine ka_iadd d_L_law_943 rfl ?_
  refine ka_sld d_L_law_944 rfl v2 ?_
  refine ka_aload_n d_L_law_945 rfl rfl 1 rfl ?_
  refine ka_iload d_L_law_946 rfl 5 rfl ?_
  refine ka_iconst (v := 3) d_L_law_948 rfl (by decide) ?_
  refine ka_iadd d_L_law_949 rfl ?_
  refine ka_sld d_L_law_950 rfl v3 ?_
  refine ka_aload_n d_L_law_951 rfl rfl 1 rfl ?_
  refine ka_iload d_L_law_952 rfl 5 rfl ?_
  refine ka_iconst (v := 4) d_L_law_954 rfl (by decide) ?_
  refine ka_iadd d_L_law_955 rfl ?_
  refine ka_sld d_L_law_956 rfl v4 ?_
  refine ka_sub [1, 2, 3, 4, 5, 0] rfl ?_
  exact k5
theorem cs_L_law_957 {L : Nat} {xs : Nat → Int32} {σ : ks_St} {mc ms : Nat} {P : ka_O → ks_St → Prop} {f : Int32 → ks_St → Prop} {x4 : Int32} {x5 : Int32} {s1 : Int32} {s2 : Int32} {s3 : Int32} {s4 : Int32} (hK : ks_M L xs mX5_real rm_X5_real [.ref 17, .int s1, .int s2, .int s3, .int s4] σ (pi_ f)) (kr : ∀ r σ', f r σ' → ks_W L xs mL_law rm_L_law 960 [(0, .ref ka_S), (1, .ref 0), (2, .ref 17), (3, .ref 29), (4, .int x4), (5, .int x5)] [.int r] σ' mc ms P) : ks_W L xs mL_law rm_L_law 957 [(0, .ref ka_S), (1, .ref 0), (2, .ref 17), (3, .ref 29), (4, .int x4), (5, .int x5)] [.int s4, .int s3, .int s2, .int s1, .ref 17] σ mc ms P := by
  refine ks_callV (q := 960) (o := 17) (ci := 5) (As := [.int s1, .int s2, .int s3, .int s4]) (st := []) d_L_law_957 rfl rfl (by decide) rfl rfl lk_L_121 ⟨by decide, by decide⟩ (Nat.le_of_ble_eq_true rfl) ⟨Nat.le_refl _, Nat.le_refl _⟩ hK (fun v σ' hq => ?_) (fun E σ' hq => ?_)
  · obtain ⟨r, e, hf⟩ := hq; cases e; exact kr r σ' hf
  · obtain ⟨r, e, hf⟩ := hq; cases e
theorem sg_L_law_960 {L : Nat} {xs : Nat → Int32} {σ : ks_St} {mc ms : Nat} {P : ka_O → ks_St → Prop} {x4 : Int32} {x5 : Int32} {s0 : Int32}  (k1 : ks_W L xs mL_law rm_L_law 963 [(0, .ref ka_S), (1, .ref 0), (2, .ref 17), (3, .ref 29), (4, .int x4), (5, .int x5), (6, .int s0)] [.ref 17] σ mc ms P) : ks_W L xs mL_law rm_L_law 960 [(0, .ref ka_S), (1, .ref 0), (2, .ref 17), (3, .ref 29), (4, .int x4), (5, .int x5)] [.int s0] σ mc ms P := by
  refine ka_istore (ls' := [(6, .int s0), (0, .ref ka_S), (1, .ref 0), (2, .ref 17), (3, .ref 29), (4, .int x4), (5, .int x5)]) d_L_law_960 rfl (by decide) rfl ?_
  refine ka_aload_n d_L_law_962 rfl rfl 3 rfl ?_
  refine ka_sub [1, 2, 3, 4, 5, 6, 0] rfl ?_
  exact k1
theorem cs_L_law_963 {L : Nat} {xs : Nat → Int32} {σ : ks_St} {mc ms : Nat} {P : ka_O → ks_St → Prop} {f : Int32 → ks_St → Prop} {x4 : Int32} {x5 : Int32} {x6 : Int32} (hK : ks_M L xs mX5_thrown rm_X5_thrown [.ref 17] σ (pi_ f)) (kr : ∀ r σ', f r σ' → ks_W L xs mL_law rm_L_law 966 [(0, .ref ka_S), (1, .ref 0), (2, .ref 17), (3, .ref 29), (4, .int x4), (5, .int x5), (6, .int x6)] [.int r] σ' mc ms P) : ks_W L xs mL_law rm_L_law 963 [(0, .ref ka_S), (1, .ref 0), (2, .ref 17), (3, .ref 29), (4, .int x4), (5, .int x5), (6, .int x6)] [.ref 17] σ mc ms P := by
  refine ks_callV (q := 966) (o := 17) (ci := 5) (As := []) (st := []) d_L_law_963 rfl rfl (by decide) rfl rfl lk_L_81 ⟨by decide, by decide⟩ (Nat.le_of_ble_eq_true rfl) ⟨Nat.le_refl _, Nat.le_refl _⟩ hK (fun v σ' hq => ?_) (fun E σ' hq => ?_)
  · obtain ⟨r, e, hf⟩ := hq; cases e; exact kr r σ' hf
  · obtain ⟨r, e, hf⟩ := hq; cases e
theorem sg_L_law_966 {L : Nat} {xs : Nat → Int32} {σ : ks_St} {mc ms : Nat} {P : ka_O → ks_St → Prop} {x4 : Int32} {x5 : Int32} {x6 : Int32} {s0 : Int32}  (k3 : (s0 = x5) → (¬ x5 = 0) → ks_W L xs mL_law rm_L_law 990 [(0, .ref ka_S), (1, .ref 0), (2, .ref 17), (3, .ref 29), (4, .int x4)] [] σ mc ms P) (k5 : (s0 = x5) → (x5 = 0) → ((lg_cmp (sg_ σ 29 (0 : Int32).toNatClampNeg) (x6.toInt64)) = 0) → ks_W L xs mL_law rm_L_law 990 [(0, .ref ka_S), (1, .ref 0), (2, .ref 17), (3, .ref 29), (4, .int x4)] [] σ mc ms P) (r6 : (s0 = x5) → (x5 = 0) → (¬ ((lg_cmp (sg_ σ 29 (0 : Int32).toNatClampNeg) (x6.toInt64)) = 0)) → P (.inl (some (.int 0))) σ) (r7 : (¬ (s0 = x5)) → P (.inl (some (.int 0))) σ) : ks_W L xs mL_law rm_L_law 966 [(0, .ref ka_S), (1, .ref 0), (2, .ref 17), (3, .ref 29), (4, .int x4), (5, .int x5), (6, .int x6)] [.int s0] σ mc ms P := by
  refine ka_iload d_L_law_966 rfl 5 rfl ?_
  refine ka_icmp_eq (tgt := 973) d_L_law_968 (by decide) rfl (fun c1 => ?_) (fun c1 => ?_)
  · refine ka_iload d_L_law_973 rfl 5 rfl ?_
    refine ka_if_ne (tgt := 990) d_L_law_975 (by decide) rfl (fun c2 => ?_) (fun c2 => ?_)
    · refine ka_sub [0, 1, 2, 3, 4] rfl ?_
      exact (k3 c1 c2)
    · refine ka_aload_n d_L_law_978 rfl rfl 3 rfl ?_
      refine ka_iconst (v := 0) d_L_law_979 rfl (by decide) ?_
      refine ks_lald row_29 d_L_law_980 rfl (by unfold vp_in; decide) ?_
      refine ka_iload d_L_law_981 rfl 6 rfl ?_
      refine ka_i2l d_L_law_983 rfl ?_
      refine ka_lcmp d_L_law_984 rfl ?_
      refine ka_if_eq (tgt := 990) d_L_law_985 (by decide) rfl (fun c4 => ?_) (fun c4 => ?_)
      · refine ka_sub [0, 1, 2, 3, 4] rfl ?_
        exact (k5 c1 c2 c4)
      · refine ka_iconst (v := 0) d_L_law_988 rfl (by decide) ?_
        exact ks_iret (ty := .boolean) d_L_law_989 rfl rfl (r6 c1 c2 c4)
  · refine ka_iconst (v := 0) d_L_law_971 rfl (by decide) ?_
    exact ks_iret (ty := .boolean) d_L_law_972 rfl rfl (r7 c1)
theorem sg_L_law_990 {L : Nat} {xs : Nat → Int32} {σ : ks_St} {mc ms : Nat} {P : ka_O → ks_St → Prop} {x4 : Int32}  (k1 : ks_W L xs mL_law rm_L_law 1118 [(0, .ref ka_S), (1, .ref 0), (2, .ref 17), (3, .ref 29), (4, .int x4)] [] σ mc ms P) : ks_W L xs mL_law rm_L_law 990 [(0, .ref ka_S), (1, .ref 0), (2, .ref 17), (3, .ref 29), (4, .int x4)] [] σ mc ms P := by
  refine ka_goto (q := 1118) d_L_law_990 (by decide) ?_
  exact k1
theorem cs_L_law_994 {L : Nat} {xs : Nat → Int32} {σ : ks_St} {mc ms : Nat} {P : ka_O → ks_St → Prop} {f : Int32 → ks_St → Prop} {x4 : Int32} (hK : ks_M L xs mX4_flags rm_X4_flags [.ref 0] σ (pi_ f)) (kr : ∀ r σ', f r σ' → ks_W L xs mL_law rm_L_law 997 [(0, .ref ka_S), (1, .ref 0), (2, .ref 17), (3, .ref 29), (4, .int x4)] [.int r] σ' mc ms P) : ks_W L xs mL_law rm_L_law 994 [(0, .ref ka_S), (1, .ref 0), (2, .ref 17), (3, .ref 29), (4, .int x4)] [.ref 0] σ mc ms P := by
  refine ks_callV (q := 997) (o := 0) (ci := 4) (As := []) (st := []) d_L_law_994 rfl rfl (by decide) rfl rfl lk_L_122 ⟨by decide, by decide⟩ (Nat.le_of_ble_eq_true rfl) ⟨Nat.le_refl _, Nat.le_refl _⟩ hK (fun v σ' hq => ?_) (fun E σ' hq => ?_)
  · obtain ⟨r, e, hf⟩ := hq; cases e; exact kr r σ' hf
  · obtain ⟨r, e, hf⟩ := hq; cases e
theorem sg_L_law_997 {L : Nat} {xs : Nat → Int32} {σ : ks_St} {mc ms : Nat} {P : ka_O → ks_St → Prop} {x4 : Int32} {s0 : Int32}  (k1 : ks_W L xs mL_law rm_L_law 998 [(0, .ref ka_S), (1, .ref 0), (2, .ref 17), (3, .ref 29), (4, .int x4)] [.ref 17, .int s0] σ mc ms P) : ks_W L xs mL_law rm_L_law 997 [(0, .ref ka_S), (1, .ref 0), (2, .ref 17), (3, .ref 29), (4, .int x4)] [.int s0] σ mc ms P := by
  refine ka_aload_n d_L_law_997 rfl rfl 2 rfl ?_
  exact k1
theorem cs_L_law_998 {L : Nat} {xs : Nat → Int32} {σ : ks_St} {mc ms : Nat} {P : ka_O → ks_St → Prop} {f : Int32 → ks_St → Prop} {x4 : Int32} {s0 : Int32} (hK : ks_M L xs mX5_flags rm_X5_flags [.ref 17] σ (pi_ f)) (kr : ∀ r σ', f r σ' → ks_W L xs mL_law rm_L_law 1001 [(0, .ref ka_S), (1, .ref 0), (2, .ref 17), (3, .ref 29), (4, .int x4)] [.int r, .int s0] σ' mc ms P) : ks_W L xs mL_law rm_L_law 998 [(0, .ref ka_S), (1, .ref 0), (2, .ref 17), (3, .ref 29), (4, .int x4)] [.ref 17, .int s0] σ mc ms P := by
  refine ks_callV (q := 1001) (o := 17) (ci := 5) (As := []) (st := [.int s0]) d_L_law_998 rfl rfl (by decide) rfl rfl lk_L_125 ⟨by decide, by decide⟩ (Nat.le_of_ble_eq_true rfl) ⟨Nat.le_refl _, Nat.le_refl _⟩ hK (fun v σ' hq => ?_) (fun E σ' hq => ?_)
  · obtain ⟨r, e, hf⟩ := hq; cases e; exact kr r σ' hf
  · obtain ⟨r, e, hf⟩ := hq; cases e
theorem sg_L_law_1001 {L : Nat} {xs : Nat → Int32} {σ : ks_St} {mc ms : Nat} {P : ka_O → ks_St → Prop} {x4 : Int32} {s0 : Int32} {s1 : Int32}  (k2 : (s0 = s1) → ks_W L xs mL_law rm_L_law 1118 [(0, .ref ka_S), (1, .ref 0), (2, .ref 17), (3, .ref 29), (4, .int x4)] [] σ mc ms P) (r3 : (¬ (s0 = s1)) → P (.inl (some (.int 0))) σ) : ks_W L xs mL_law rm_L_law 1001 [(0, .ref ka_S), (1, .ref 0), (2, .ref 17), (3, .ref 29), (4, .int x4)] [.int s1, .int s0] σ mc ms P := by
  refine ka_icmp_eq (tgt := 1118) d_L_law_1001 (by decide) rfl (fun c1 => ?_) (fun c1 => ?_)
  · exact (k2 c1)
  · refine ka_iconst (v := 0) d_L_law_1004 rfl (by decide) ?_
    exact ks_iret (ty := .boolean) d_L_law_1005 rfl rfl (r3 c1)
theorem cs_L_law_1014 {L : Nat} {xs : Nat → Int32} {σ : ks_St} {mc ms : Nat} {P : ka_O → ks_St → Prop} {f : Int32 → ks_St → Prop} {x4 : Int32} {s1 : Int32} (hK : ks_M L xs mL_count rm_L_count [.ref 0, .int s1, .ref 29] σ (pi_ f)) (kr : ∀ r σ', f r σ' → ks_W L xs mL_law rm_L_law 1017 [(0, .ref ka_S), (1, .ref 0), (2, .ref 17), (3, .ref 29), (4, .int x4)] [.int r] σ' mc ms P) : ks_W L xs mL_law rm_L_law 1014 [(0, .ref ka_S), (1, .ref 0), (2, .ref 17), (3, .ref 29), (4, .int x4)] [.ref 29, .int s1, .ref 0] σ (mc + 1) (ms + 6) P := by
  refine ks_callSX (q := 1017) (As := [.ref 0, .int s1, .ref 29]) (st := []) d_L_law_1014 rfl rfl lk_L_126 ⟨by decide, by decide⟩ (Nat.le_of_ble_eq_true rfl) ⟨Nat.le_refl _, Nat.le_refl _⟩ hK (fun v σ' hq => ?_) (fun E σ' hq => ?_)
  · obtain ⟨r, e, hf⟩ := hq; cases e; exact kr r σ' hf
  · obtain ⟨r, e, hf⟩ := hq; cases e
theorem sg_L_law_1017 {L : Nat} {xs : Nat → Int32} {σ : ks_St} {mc ms : Nat} {P : ka_O → ks_St → Prop} {x4 : Int32} {s0 : Int32}  (v1 : vp_in (x4 + 1) L) (k2 : ks_W L xs mL_law rm_L_law 1026 [(0, .ref ka_S), (1, .ref 0), (2, .ref 17), (3, .ref 29), (4, .int x4), (5, .int s0)] [.int (xs (x4 + 1).toNatClampNeg), .ref 17] σ mc ms P) : ks_W L xs mL_law rm_L_law 1017 [(0, .ref ka_S), (1, .ref 0), (2, .ref 17), (3, .ref 29), (4, .int x4)] [.int s0] σ mc ms P := by
  refine ka_istore (ls' := [(5, .int s0), (0, .ref ka_S), (1, .ref 0), (2, .ref 17), (3, .ref 29), (4, .int x4)]) d_L_law_1017 rfl (by decide) rfl ?_
  refine ka_aload_n d_L_law_1019 rfl rfl 3 rfl ?_
  refine ka_aload_n d_L_law_1020 rfl rfl 1 rfl ?_
  refine ka_iload d_L_law_1021 rfl 5 rfl ?_
  refine ka_iconst (v := 1) d_L_law_1023 rfl (by decide) ?_
  refine ka_iadd d_L_law_1024 rfl ?_
  refine ka_sld d_L_law_1025 rfl v1 ?_
  refine ka_sub [1, 2, 3, 4, 5, 0] rfl ?_
  exact k2
theorem cs_L_law_1026 {L : Nat} {xs : Nat → Int32} {σ : ks_St} {mc ms : Nat} {P : ka_O → ks_St → Prop} {f : Int32 → ks_St → Prop} {x4 : Int32} {x5 : Int32} {s1 : Int32} (hK : ks_M L xs mX5_count rm_X5_count [.ref 17, .int s1] σ (pi_ f)) (kr : ∀ r σ', f r σ' → ks_W L xs mL_law rm_L_law 1029 [(0, .ref ka_S), (1, .ref 0), (2, .ref 17), (3, .ref 29), (4, .int x4), (5, .int x5)] [.int r] σ' mc ms P) : ks_W L xs mL_law rm_L_law 1026 [(0, .ref ka_S), (1, .ref 0), (2, .ref 17), (3, .ref 29), (4, .int x4), (5, .int x5)] [.int s1, .ref 17] σ mc ms P := by
  refine ks_callV (q := 1029) (o := 17) (ci := 5) (As := [.int s1]) (st := []) d_L_law_1026 rfl rfl (by decide) rfl rfl lk_L_128 ⟨by decide, by decide⟩ (Nat.le_of_ble_eq_true rfl) ⟨Nat.le_refl _, Nat.le_refl _⟩ hK (fun v σ' hq => ?_) (fun E σ' hq => ?_)
  · obtain ⟨r, e, hf⟩ := hq; cases e; exact kr r σ' hf
  · obtain ⟨r, e, hf⟩ := hq; cases e
theorem sg_L_law_1029 {L : Nat} {xs : Nat → Int32} {σ : ks_St} {mc ms : Nat} {P : ka_O → ks_St → Prop} {x4 : Int32} {x5 : Int32} {s0 : Int32}  (k1 : ks_W L xs mL_law rm_L_law 1032 [(0, .ref ka_S), (1, .ref 0), (2, .ref 17), (3, .ref 29), (4, .int x4), (5, .int x5), (6, .int s0)] [.ref 17] σ mc ms P) : ks_W L xs mL_law rm_L_law 1029 [(0, .ref ka_S), (1, .ref 0), (2, .ref 17), (3, .ref 29), (4, .int x4), (5, .int x5)] [.int s0] σ mc ms P := by
  refine ka_istore (ls' := [(6, .int s0), (0, .ref ka_S), (1, .ref 0), (2, .ref 17), (3, .ref 29), (4, .int x4), (5, .int x5)]) d_L_law_1029 rfl (by decide) rfl ?_
  refine ka_aload_n d_L_law_1031 rfl rfl 3 rfl ?_
  refine ka_sub [1, 2, 3, 4, 5, 6, 0] rfl ?_
  exact k1
theorem cs_L_law_1032 {L : Nat} {xs : Nat → Int32} {σ : ks_St} {mc ms : Nat} {P : ka_O → ks_St → Prop} {f : Int32 → ks_St → Prop} {x4 : Int32} {x5 : Int32} {x6 : Int32} (hK : ks_M L xs mX5_thrown rm_X5_thrown [.ref 17] σ (pi_ f)) (kr : ∀ r σ', f r σ' → ks_W L xs mL_law rm_L_law 1035 [(0, .ref ka_S), (1, .ref 0), (2, .ref 17), (3, .ref 29), (4, .int x4), (5, .int x5), (6, .int x6)] [.int r] σ' mc ms P) : ks_W L xs mL_law rm_L_law 1032 [(0, .ref ka_S), (1, .ref 0), (2, .ref 17), (3, .ref 29), (4, .int x4), (5, .int x5), (6, .int x6)] [.ref 17] σ mc ms P := by
  refine ks_callV (q := 1035) (o := 17) (ci := 5) (As := []) (st := []) d_L_law_1032 rfl rfl (by decide) rfl rfl lk_L_81 ⟨by decide, by decide⟩ (Nat.le_of_ble_eq_true rfl) ⟨Nat.le_refl _, Nat.le_refl _⟩ hK (fun v σ' hq => ?_) (fun E σ' hq => ?_)
  · obtain ⟨r, e, hf⟩ := hq; cases e; exact kr r σ' hf
  · obtain ⟨r, e, hf⟩ := hq; cases e
theorem sg_L_law_1035 {L : Nat} {xs : Nat → Int32} {σ : ks_St} {mc ms : Nat} {P : ka_O → ks_St → Prop} {x4 : Int32} {x5 : Int32} {x6 : Int32} {s0 : Int32}  (k3 : (s0 = x5) → (¬ x5 = 0) → ks_W L xs mL_law rm_L_law 1059 [(0, .ref ka_S), (1, .ref 0), (2, .ref 17), (3, .ref 29), (4, .int x4)] [] σ mc ms P) (k5 : (s0 = x5) → (x5 = 0) → ((lg_cmp (sg_ σ 29 (0 : Int32).toNatClampNeg) (x6.toInt64)) = 0) → ks_W L xs mL_law rm_L_law 1059 [(0, .ref ka_S), (1, .ref 0), (2, .ref 17), (3, .ref 29), (4, .int x4)] [] σ mc ms P) (r6 : (s0 = x5) → (x5 = 0) → (¬ ((lg_cmp (sg_ σ 29 (0 : Int32).toNatClampNeg) (x6.toInt64)) = 0)) → P (.inl (some (.int 0))) σ) (r7 : (¬ (s0 = x5)) → P (.inl (some (.int 0))) σ) : ks_W L xs mL_law rm_L_law 1035 [(0, .ref ka_S), (1, .ref 0), (2, .ref 17), (3, .ref 29), (4, .int x4), (5, .int x5), (6, .int x6)] [.int s0] σ mc ms P := by
  refine ka_iload d_L_law_1035 rfl 5 rfl ?_
  refine ka_icmp_eq (tgt := 1042) d_L_law_1037 (by decide) rfl (fun c1 => ?_) (fun c1 => ?_)
  · refine ka_iload d_L_law_1042 rfl 5 rfl ?_
    refine ka_if_ne (tgt := 1059) d_L_law_1044 (by decide) rfl (fun c2 => ?_) (fun c2 => ?_)
    · refine ka_sub [0, 1, 2, 3, 4] rfl ?_
      exact (k3 c1 c2)
    · refine ka_aload_n d_L_law_1047 rfl rfl 3 rfl ?_
      refine ka_iconst (v := 0) d_L_law_1048 rfl (by decide) ?_
      refine ks_lald row_29 d_L_law_1049 rfl (by unfold vp_in; decide) ?_
      refine ka_iload d_L_law_1050 rfl 6 rfl ?_
      refine ka_i2l d_L_law_1052 rfl ?_
      refine ka_lcmp d_L_law_1053 rfl ?_
      refine ka_if_eq (tgt := 1059) d_L_law_1054 (by decide) rfl (fun c4 => ?_) (fun c4 => ?_)
      · refine ka_sub [0, 1, 2, 3, 4] rfl ?_
        exact (k5 c1 c2 c4)
      · refine ka_iconst (v := 0) d_L_law_1057 rfl (by decide) ?_
        exact ks_iret (ty := .boolean) d_L_law_1058 rfl rfl (r6 c1 c2 c4)
  · refine ka_iconst (v := 0) d_L_law_1040 rfl (by decide) ?_
    exact ks_iret (ty := .boolean) d_L_law_1041 rfl rfl (r7 c1)
theorem sg_L_law_1059 {L : Nat} {xs : Nat → Int32} {σ : ks_St} {mc ms : Nat} {P : ka_O → ks_St → Prop} {x4 : Int32}  (k1 : ks_W L xs mL_law rm_L_law 1118 [(0, .ref ka_S), (1, .ref 0), (2, .ref 17), (3, .ref 29), (4, .int x4)] [] σ mc ms P) : ks_W L xs mL_law rm_L_law 1059 [(0, .ref ka_S), (1, .ref 0), (2, .ref 17), (3, .ref 29), (4, .int x4)] [] σ mc ms P := by
  refine ka_goto (q := 1118) d_L_law_1059 (by decide) ?_
  exact k1
theorem cs_L_law_1070 {L : Nat} {xs : Nat → Int32} {σ : ks_St} {mc ms : Nat} {P : ka_O → ks_St → Prop} {f : Int32 → ks_St → Prop} {x4 : Int32} {s1 : Int32} (hK : ks_M L xs mL_width rm_L_width [.ref 0, .int s1, .ref 29] σ (pi_ f)) (kr : ∀ r σ', f r σ' → ks_W L xs mL_law rm_L_law 1073 [(0, .ref ka_S), (1, .ref 0), (2, .ref 17), (3, .ref 29), (4, .int x4)] [.int r] σ' mc ms P) : ks_W L xs mL_law rm_L_law 1070 [(0, .ref ka_S), (1, .ref 0), (2, .ref 17), (3, .ref 29), (4, .int x4)] [.ref 29, .int s1, .ref 0] σ (mc + 1) (ms + 6) P := by
  refine ks_callSX (q := 1073) (As := [.ref 0, .int s1, .ref 29]) (st := []) d_L_law_1070 rfl rfl lk_L_129 ⟨by decide, by decide⟩ (Nat.le_of_ble_eq_true rfl) ⟨Nat.le_refl _, Nat.le_refl _⟩ hK (fun v σ' hq => ?_) (fun E σ' hq => ?_)
  · obtain ⟨r, e, hf⟩ := hq; cases e; exact kr r σ' hf
  · obtain ⟨r, e, hf⟩ := hq; cases e
theorem sg_L_law_1073 {L : Nat} {xs : Nat → Int32} {σ : ks_St} {mc ms : Nat} {P : ka_O → ks_St → Prop} {x4 : Int32} {s0 : Int32}  (v1 : vp_in (x4 + 1) L) (k2 : ks_W L xs mL_law rm_L_law 1082 [(0, .ref ka_S), (1, .ref 0), (2, .ref 17), (3, .ref 29), (4, .int x4), (5, .int s0)] [.int (xs (x4 + 1).toNatClampNeg), .ref 17] σ mc ms P) : ks_W L xs mL_law rm_L_law 1073 [(0, .ref ka_S), (1, .ref 0), (2, .ref 17), (3, .ref 29), (4, .int x4)] [.int s0] σ mc ms P := by
  refine ka_istore (ls' := [(5, .int s0), (0, .ref ka_S), (1, .ref 0), (2, .ref 17), (3, .ref 29), (4, .int x4)]) d_L_law_1073 rfl (by decide) rfl ?_
  refine ka_aload_n d_L_law_1075 rfl rfl 3 rfl ?_
  refine ka_aload_n d_L_law_1076 rfl rfl 1 rfl ?_
  refine ka_iload d_L_law_1077 rfl 5 rfl ?_
  refine ka_iconst (v := 1) d_L_law_1079 rfl (by decide) ?_
  refine ka_iadd d_L_law_1080 rfl ?_
  refine ka_sld d_L_law_1081 rfl v1 ?_
  refine ka_sub [1, 2, 3, 4, 5, 0] rfl ?_
  exact k2
theorem cs_L_law_1082 {L : Nat} {xs : Nat → Int32} {σ : ks_St} {mc ms : Nat} {P : ka_O → ks_St → Prop} {f : Int32 → ks_St → Prop} {x4 : Int32} {x5 : Int32} {s1 : Int32} (hK : ks_M L xs mX5_width rm_X5_width [.ref 17, .int s1] σ (pi_ f)) (kr : ∀ r σ', f r σ' → ks_W L xs mL_law rm_L_law 1085 [(0, .ref ka_S), (1, .ref 0), (2, .ref 17), (3, .ref 29), (4, .int x4), (5, .int x5)] [.int r] σ' mc ms P) : ks_W L xs mL_law rm_L_law 1082 [(0, .ref ka_S), (1, .ref 0), (2, .ref 17), (3, .ref 29), (4, .int x4), (5, .int x5)] [.int s1, .ref 17] σ mc ms P := by
  refine ks_callV (q := 1085) (o := 17) (ci := 5) (As := [.int s1]) (st := []) d_L_law_1082 rfl rfl (by decide) rfl rfl lk_L_131 ⟨by decide, by decide⟩ (Nat.le_of_ble_eq_true rfl) ⟨Nat.le_refl _, Nat.le_refl _⟩ hK (fun v σ' hq => ?_) (fun E σ' hq => ?_)
  · obtain ⟨r, e, hf⟩ := hq; cases e; exact kr r σ' hf
  · obtain ⟨r, e, hf⟩ := hq; cases e
theorem sg_L_law_1085 {L : Nat} {xs : Nat → Int32} {σ : ks_St} {mc ms : Nat} {P : ka_O → ks_St → Prop} {x4 : Int32} {x5 : Int32} {s0 : Int32}  (k1 : ks_W L xs mL_law rm_L_law 1088 [(0, .ref ka_S), (1, .ref 0), (2, .ref 17), (3, .ref 29), (4, .int x4), (5, .int x5), (6, .int s0)] [.ref 17] σ mc ms P) : ks_W L xs mL_law rm_L_law 1085 [(0, .ref ka_S), (1, .ref 0), (2, .ref 17), (3, .ref 29), (4, .int x4), (5, .int x5)] [.int s0] σ mc ms P := by
  refine ka_istore (ls' := [(6, .int s0), (0, .ref ka_S), (1, .ref 0), (2, .ref 17), (3, .ref 29), (4, .int x4), (5, .int x5)]) d_L_law_1085 rfl (by decide) rfl ?_
  refine ka_aload_n d_L_law_1087 rfl rfl 3 rfl ?_
  refine ka_sub [1, 2, 3, 4, 5, 6, 0] rfl ?_
  exact k1
theorem cs_L_law_1088 {L : Nat} {xs : Nat → Int32} {σ : ks_St} {mc ms : Nat} {P : ka_O → ks_St → Prop} {f : Int32 → ks_St → Prop} {x4 : Int32} {x5 : Int32} {x6 : Int32} (hK : ks_M L xs mX5_thrown rm_X5_thrown [.ref 17] σ (pi_ f)) (kr : ∀ r σ', f r σ' → ks_W L xs mL_law rm_L_law 1091 [(0, .ref ka_S), (1, .ref 0), (2, .ref 17), (3, .ref 29), (4, .int x4), (5, .int x5), (6, .int x6)] [.int r] σ' mc ms P) : ks_W L xs mL_law rm_L_law 1088 [(0, .ref ka_S), (1, .ref 0), (2, .ref 17), (3, .ref 29), (4, .int x4), (5, .int x5), (6, .int x6)] [.ref 17] σ mc ms P := by
  refine ks_callV (q := 1091) (o := 17) (ci := 5) (As := []) (st := []) d_L_law_1088 rfl rfl (by decide) rfl rfl lk_L_81 ⟨by decide, by decide⟩ (Nat.le_of_ble_eq_true rfl) ⟨Nat.le_refl _, Nat.le_refl _⟩ hK (fun v σ' hq => ?_) (fun E σ' hq => ?_)
  · obtain ⟨r, e, hf⟩ := hq; cases e; exact kr r σ' hf
  · obtain ⟨r, e, hf⟩ := hq; cases e
theorem sg_L_law_1091 {L : Nat} {xs : Nat → Int32} {σ : ks_St} {mc ms : Nat} {P : ka_O → ks_St → Prop} {x4 : Int32} {x5 : Int32} {x6 : Int32} {s0 : Int32}  (k3 : (s0 = x5) → (¬ x5 = 0) → ks_W L xs mL_law rm_L_law 1115 [(0, .ref ka_S), (1, .ref 0), (2, .ref 17), (3, .ref 29), (4, .int x4)] [] σ mc ms P) (k5 : (s0 = x5) → (x5 = 0) → ((lg_cmp (sg_ σ 29 (0 : Int32).toNatClampNeg) (x6.toInt64)) = 0) → ks_W L xs mL_law rm_L_law 1115 [(0, .ref ka_S), (1, .ref 0), (2, .ref 17), (3, .ref 29), (4, .int x4)] [] σ mc ms P) (r6 : (s0 = x5) → (x5 = 0) → (¬ ((lg_cmp (sg_ σ 29 (0 : Int32).toNatClampNeg) (x6.toInt64)) = 0)) → P (.inl (some (.int 0))) σ) (r7 : (¬ (s0 = x5)) → P (.inl (some (.int 0))) σ) : ks_W L xs mL_law rm_L_law 1091 [(0, .ref ka_S), (1, .ref 0), (2, .ref 17), (3, .ref 29), (4, .int x4), (5, .int x5), (6, .int x6)] [.int s0] σ mc ms P := by
  refine ka_iload d_L_law_1091 rfl 5 rfl ?_
  refine ka_icmp_eq (tgt := 1098) d_L_law_1093 (by decide) rfl (fun c1 => ?_) (fun c1 => ?_)
  · refine ka_iload d_L_law_1098 rfl 5 rfl ?_
    refine ka_if_ne (tgt := 1115) d_L_law_1100 (by decide) rfl (fun c2 => ?_) (fun c2 => ?_)
    · refine ka_sub [0, 1, 2, 3, 4] rfl ?_
      exact (k3 c1 c2)
    · refine ka_aload_n d_L_law_1103 rfl rfl 3 rfl ?_
      refine ka_iconst (v := 0) d_L_law_1104 rfl (by decide) ?_
      refine ks_lald row_29 d_L_law_1105 rfl (by unfold vp_in; decide) ?_
      refine ka_iload d_L_law_1106 rfl 6 rfl ?_
      refine ka_i2l d_L_law_1108 rfl ?_
      refine ka_lcmp d_L_law_1109 rfl ?_
      refine ka_if_eq (tgt := 1115) d_L_law_1110 (by decide) rfl (fun c4 => ?_) (fun c4 => ?_)
      · refine ka_sub [0, 1, 2, 3, 4] rfl ?_
        exact (k5 c1 c2 c4)
      · refine ka_iconst (v := 0) d_L_law_1113 rfl (by decide) ?_
        exact ks_iret (ty := .boolean) d_L_law_1114 rfl rfl (r6 c1 c2 c4)
  · refine ka_iconst (v := 0) d_L_law_1096 rfl (by decide) ?_
    exact ks_iret (ty := .boolean) d_L_law_1097 rfl rfl (r7 c1)
theorem sg_L_law_1115 {L : Nat} {xs : Nat → Int32} {σ : ks_St} {mc ms : Nat} {P : ka_O → ks_St → Prop} {x4 : Int32}  (k1 : ks_W L xs mL_law rm_L_law 1118 [(0, .ref ka_S), (1, .ref 0), (2, .ref 17), (3, .ref 29), (4, .int x4)] [] σ mc ms P) : ks_W L xs mL_law rm_L_law 1115 [(0, .ref ka_S), (1, .ref 0), (2, .ref 17), (3, .ref 29), (4, .int x4)] [] σ mc ms P := by
  refine ka_goto (q := 1118) d_L_law_1115 (by decide) ?_
  exact k1
theorem sg_L_law_1118 {L : Nat} {xs : Nat → Int32} {σ : ks_St} {mc ms : Nat} {P : ka_O → ks_St → Prop} {x4 : Int32}  (k1 : ks_W L xs mL_law rm_L_law 33 [(0, .ref ka_S), (1, .ref 0), (2, .ref 17), (3, .ref 29), (4, .int (x4 + 5))] [] σ mc ms P) : ks_W L xs mL_law rm_L_law 1118 [(0, .ref ka_S), (1, .ref 0), (2, .ref 17), (3, .ref 29), (4, .int x4)] [] σ mc ms P := by
  refine ka_iinc (g := 4) (v := x4 + 5) (ls' := [(4, .int (x4 + 5)), (0, .ref ka_S), (1, .ref 0), (2, .ref 17), (3, .ref 29)]) d_L_law_1118 rfl rfl rfl (by decide) rfl ?_
  refine ka_goto (q := 33) d_L_law_1121 (by decide) ?_
  refine ka_sub [1, 2, 3, 4, 0] rfl ?_
  exact k1
