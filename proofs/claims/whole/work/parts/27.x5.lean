theorem d_X5_op_0 : decode cX5_op 0 = .ok (.iload_n 1, 1) := by decide +kernel
theorem d_X5_op_1 : decode cX5_op 1 = .ok (.bipush 16, 2) := by decide +kernel
theorem d_X5_op_3 : decode cX5_op 3 = .ok (.if_icmp .lt 13, 3) := by decide +kernel
theorem d_X5_op_6 : decode cX5_op 6 = .ok (.iload_n 1, 1) := by decide +kernel
theorem d_X5_op_7 : decode cX5_op 7 = .ok (.bipush 18, 2) := by decide +kernel
theorem d_X5_op_9 : decode cX5_op 9 = .ok (.if_icmp .gt 7, 3) := by decide +kernel
theorem d_X5_op_12 : decode cX5_op 12 = .ok (.iconst 1, 1) := by decide +kernel
theorem d_X5_op_13 : decode cX5_op 13 = .ok (.goto 4, 3) := by decide +kernel
theorem d_X5_op_16 : decode cX5_op 16 = .ok (.iconst 0, 1) := by decide +kernel
theorem d_X5_op_17 : decode cX5_op 17 = .ok (.istore 4, 2) := by decide +kernel
theorem d_X5_op_19 : decode cX5_op 19 = .ok (.aload_n 0, 1) := by decide +kernel
theorem d_X5_op_20 : decode cX5_op 20 = .ok (.iload_n 2, 1) := by decide +kernel
theorem d_X5_op_21 : decode cX5_op 21 = .ok (.invokevirtual 64, 3) := by decide +kernel
theorem d_X5_op_24 : decode cX5_op 24 = .ok (.ifCond .eq 16, 3) := by decide +kernel
theorem d_X5_op_27 : decode cX5_op 27 = .ok (.iload 4, 2) := by decide +kernel
theorem d_X5_op_29 : decode cX5_op 29 = .ok (.ifCond .ne 15, 3) := by decide +kernel
theorem d_X5_op_32 : decode cX5_op 32 = .ok (.aload_n 0, 1) := by decide +kernel
theorem d_X5_op_33 : decode cX5_op 33 = .ok (.iload_n 3, 1) := by decide +kernel
theorem d_X5_op_34 : decode cX5_op 34 = .ok (.invokevirtual 64, 3) := by decide +kernel
theorem d_X5_op_37 : decode cX5_op 37 = .ok (.ifCond .ne 7, 3) := by decide +kernel
theorem d_X5_op_40 : decode cX5_op 40 = .ok (.iconst 1, 1) := by decide +kernel
theorem d_X5_op_41 : decode cX5_op 41 = .ok (.goto 4, 3) := by decide +kernel
theorem d_X5_op_44 : decode cX5_op 44 = .ok (.iconst 0, 1) := by decide +kernel
theorem d_X5_op_45 : decode cX5_op 45 = .ok (.istore 5, 2) := by decide +kernel
theorem d_X5_op_47 : decode cX5_op 47 = .ok (.iload 4, 2) := by decide +kernel
theorem d_X5_op_49 : decode cX5_op 49 = .ok (.ifCond .eq 7, 3) := by decide +kernel
theorem d_X5_op_52 : decode cX5_op 52 = .ok (.iload_n 2, 1) := by decide +kernel
theorem d_X5_op_53 : decode cX5_op 53 = .ok (.goto 4, 3) := by decide +kernel
theorem d_X5_op_56 : decode cX5_op 56 = .ok (.iload_n 3, 1) := by decide +kernel
theorem d_X5_op_57 : decode cX5_op 57 = .ok (.istore 6, 2) := by decide +kernel
theorem d_X5_op_59 : decode cX5_op 59 = .ok (.iload 5, 2) := by decide +kernel
theorem d_X5_op_61 : decode cX5_op 61 = .ok (.ifCond .ne 47, 3) := by decide +kernel
theorem d_X5_op_64 : decode cX5_op 64 = .ok (.iload_n 1, 1) := by decide +kernel
theorem d_X5_op_65 : decode cX5_op 65 = .ok (.ifCond .lt 43, 3) := by decide +kernel
theorem d_X5_op_68 : decode cX5_op 68 = .ok (.iload_n 1, 1) := by decide +kernel
theorem d_X5_op_69 : decode cX5_op 69 = .ok (.bipush 18, 2) := by decide +kernel
theorem d_X5_op_71 : decode cX5_op 71 = .ok (.if_icmp .gt 37, 3) := by decide +kernel
theorem d_X5_op_74 : decode cX5_op 74 = .ok (.aload_n 0, 1) := by decide +kernel
theorem d_X5_op_75 : decode cX5_op 75 = .ok (.getfield 7, 3) := by decide +kernel
theorem d_X5_op_78 : decode cX5_op 78 = .ok (.iload_n 2, 1) := by decide +kernel
theorem d_X5_op_79 : decode cX5_op 79 = .ok (.iaload, 1) := by decide +kernel
theorem d_X5_op_80 : decode cX5_op 80 = .ok (.aload_n 0, 1) := by decide +kernel
theorem d_X5_op_81 : decode cX5_op 81 = .ok (.getfield 7, 3) := by decide +kernel
theorem d_X5_op_84 : decode cX5_op 84 = .ok (.iload 6, 2) := by decide +kernel
theorem d_X5_op_86 : decode cX5_op 86 = .ok (.iaload, 1) := by decide +kernel
theorem d_X5_op_87 : decode cX5_op 87 = .ok (.if_icmp .ne 21, 3) := by decide +kernel
theorem d_X5_op_90 : decode cX5_op 90 = .ok (.iload_n 1, 1) := by decide +kernel
theorem d_X5_op_91 : decode cX5_op 91 = .ok (.bipush 18, 2) := by decide +kernel
theorem d_X5_op_93 : decode cX5_op 93 = .ok (.if_icmp .ne 19, 3) := by decide +kernel
theorem d_X5_op_96 : decode cX5_op 96 = .ok (.aload_n 0, 1) := by decide +kernel
theorem d_X5_op_97 : decode cX5_op 97 = .ok (.getfield 7, 3) := by decide +kernel
theorem d_X5_op_100 : decode cX5_op 100 = .ok (.iload_n 2, 1) := by decide +kernel
theorem d_X5_op_101 : decode cX5_op 101 = .ok (.iaload, 1) := by decide +kernel
theorem d_X5_op_102 : decode cX5_op 102 = .ok (.bipush 8, 2) := by decide +kernel
theorem d_X5_op_104 : decode cX5_op 104 = .ok (.irem, 1) := by decide +kernel
theorem d_X5_op_105 : decode cX5_op 105 = .ok (.ifCond .eq 7, 3) := by decide +kernel
theorem d_X5_op_108 : decode cX5_op 108 = .ok (.iconst 1, 1) := by decide +kernel
theorem d_X5_op_109 : decode cX5_op 109 = .ok (.goto 4, 3) := by decide +kernel
theorem d_X5_op_112 : decode cX5_op 112 = .ok (.iconst 0, 1) := by decide +kernel
theorem d_X5_op_113 : decode cX5_op 113 = .ok (.istore 7, 2) := by decide +kernel
theorem d_X5_op_115 : decode cX5_op 115 = .ok (.iload 7, 2) := by decide +kernel
theorem d_X5_op_117 : decode cX5_op 117 = .ok (.ifCond .ne 18, 3) := by decide +kernel
theorem d_X5_op_120 : decode cX5_op 120 = .ok (.iload_n 1, 1) := by decide +kernel
theorem d_X5_op_121 : decode cX5_op 121 = .ok (.iconst 4, 1) := by decide +kernel
theorem d_X5_op_122 : decode cX5_op 122 = .ok (.if_icmp .lt 13, 3) := by decide +kernel
theorem d_X5_op_125 : decode cX5_op 125 = .ok (.iload_n 1, 1) := by decide +kernel
theorem d_X5_op_126 : decode cX5_op 126 = .ok (.bipush 7, 2) := by decide +kernel
theorem d_X5_op_128 : decode cX5_op 128 = .ok (.if_icmp .gt 7, 3) := by decide +kernel
theorem d_X5_op_131 : decode cX5_op 131 = .ok (.iconst 1, 1) := by decide +kernel
theorem d_X5_op_132 : decode cX5_op 132 = .ok (.goto 4, 3) := by decide +kernel
theorem d_X5_op_135 : decode cX5_op 135 = .ok (.iconst 0, 1) := by decide +kernel
theorem d_X5_op_136 : decode cX5_op 136 = .ok (.istore 8, 2) := by decide +kernel
theorem d_X5_op_138 : decode cX5_op 138 = .ok (.iload 7, 2) := by decide +kernel
theorem d_X5_op_140 : decode cX5_op 140 = .ok (.ifCond .ne 10, 3) := by decide +kernel
theorem d_X5_op_143 : decode cX5_op 143 = .ok (.aload_n 0, 1) := by decide +kernel
theorem d_X5_op_144 : decode cX5_op 144 = .ok (.iload_n 2, 1) := by decide +kernel
theorem d_X5_op_145 : decode cX5_op 145 = .ok (.iload 6, 2) := by decide +kernel
theorem d_X5_op_147 : decode cX5_op 147 = .ok (.invokevirtual 110, 3) := by decide +kernel
theorem d_X5_op_150 : decode cX5_op 150 = .ok (.aload_n 0, 1) := by decide +kernel
theorem d_X5_op_151 : decode cX5_op 151 = .ok (.iload 5, 2) := by decide +kernel
theorem d_X5_op_153 : decode cX5_op 153 = .ok (.iload 7, 2) := by decide +kernel
theorem d_X5_op_155 : decode cX5_op 155 = .ok (.iload 8, 2) := by decide +kernel
theorem d_X5_op_157 : decode cX5_op 157 = .ok (.ifCond .eq 26, 3) := by decide +kernel
theorem d_X5_op_160 : decode cX5_op 160 = .ok (.aload_n 0, 1) := by decide +kernel
theorem d_X5_op_161 : decode cX5_op 161 = .ok (.aload_n 0, 1) := by decide +kernel
theorem d_X5_op_162 : decode cX5_op 162 = .ok (.getfield 24, 3) := by decide +kernel
theorem d_X5_op_165 : decode cX5_op 165 = .ok (.iconst 0, 1) := by decide +kernel
theorem d_X5_op_166 : decode cX5_op 166 = .ok (.aload_n 0, 1) := by decide +kernel
theorem d_X5_op_167 : decode cX5_op 167 = .ok (.getfield 7, 3) := by decide +kernel
theorem d_X5_op_170 : decode cX5_op 170 = .ok (.iload 6, 2) := by decide +kernel
theorem d_X5_op_172 : decode cX5_op 172 = .ok (.iaload, 1) := by decide +kernel
theorem d_X5_op_173 : decode cX5_op 173 = .ok (.invokevirtual 76, 3) := by decide +kernel
theorem d_X5_op_176 : decode cX5_op 176 = .ok (.ifCond .eq 7, 3) := by decide +kernel
theorem d_X5_op_179 : decode cX5_op 179 = .ok (.iconst 1, 1) := by decide +kernel
theorem d_X5_op_180 : decode cX5_op 180 = .ok (.goto 4, 3) := by decide +kernel
theorem d_X5_op_183 : decode cX5_op 183 = .ok (.iconst 0, 1) := by decide +kernel
theorem d_X5_op_184 : decode cX5_op 184 = .ok (.aload_n 0, 1) := by decide +kernel
theorem d_X5_op_185 : decode cX5_op 185 = .ok (.getfield 53, 3) := by decide +kernel
theorem d_X5_op_188 : decode cX5_op 188 = .ok (.sipush 600, 3) := by decide +kernel
theorem d_X5_op_191 : decode cX5_op 191 = .ok (.if_icmp .ne 7, 3) := by decide +kernel
theorem d_X5_op_194 : decode cX5_op 194 = .ok (.iconst 1, 1) := by decide +kernel
theorem d_X5_op_195 : decode cX5_op 195 = .ok (.goto 4, 3) := by decide +kernel
theorem d_X5_op_198 : decode cX5_op 198 = .ok (.iconst 0, 1) := by decide +kernel
theorem d_X5_op_199 : decode cX5_op 199 = .ok (.invokevirtual 56, 3) := by decide +kernel
theorem d_X5_op_202 : decode cX5_op 202 = .ok (.ifCond .eq 5, 3) := by decide +kernel
theorem d_X5_op_205 : decode cX5_op 205 = .ok (.iconst 0, 1) := by decide +kernel
theorem d_X5_op_206 : decode cX5_op 206 = .ok (.ireturn, 1) := by decide +kernel
theorem d_X5_op_207 : decode cX5_op 207 = .ok (.aload_n 0, 1) := by decide +kernel
theorem d_X5_op_208 : decode cX5_op 208 = .ok (.getfield 7, 3) := by decide +kernel
theorem d_X5_op_211 : decode cX5_op 211 = .ok (.iload_n 2, 1) := by decide +kernel
theorem d_X5_op_212 : decode cX5_op 212 = .ok (.iaload, 1) := by decide +kernel
theorem d_X5_op_213 : decode cX5_op 213 = .ok (.istore 9, 2) := by decide +kernel
theorem d_X5_op_215 : decode cX5_op 215 = .ok (.aload_n 0, 1) := by decide +kernel
theorem d_X5_op_216 : decode cX5_op 216 = .ok (.getfield 18, 3) := by decide +kernel
theorem d_X5_op_219 : decode cX5_op 219 = .ok (.iconst 0, 1) := by decide +kernel
theorem d_X5_op_220 : decode cX5_op 220 = .ok (.iconst 0, 1) := by decide +kernel
theorem d_X5_op_221 : decode cX5_op 221 = .ok (.iastore, 1) := by decide +kernel
theorem d_X5_op_222 : decode cX5_op 222 = .ok (.aload_n 0, 1) := by decide +kernel
theorem d_X5_op_223 : decode cX5_op 223 = .ok (.getfield 18, 3) := by decide +kernel
theorem d_X5_op_226 : decode cX5_op 226 = .ok (.iconst 1, 1) := by decide +kernel
theorem d_X5_op_227 : decode cX5_op 227 = .ok (.iconst 0, 1) := by decide +kernel
theorem d_X5_op_228 : decode cX5_op 228 = .ok (.iastore, 1) := by decide +kernel
theorem d_X5_op_229 : decode cX5_op 229 = .ok (.iload_n 1, 1) := by decide +kernel
theorem d_X5_op_230 : decode cX5_op 230 = .ok (.iconst 3, 1) := by decide +kernel
theorem d_X5_op_231 : decode cX5_op 231 = .ok (.if_icmp .ge 10, 3) := by decide +kernel
theorem d_X5_op_234 : decode cX5_op 234 = .ok (.aload_n 0, 1) := by decide +kernel
theorem d_X5_op_235 : decode cX5_op 235 = .ok (.iload_n 1, 1) := by decide +kernel
theorem d_X5_op_236 : decode cX5_op 236 = .ok (.iload 9, 2) := by decide +kernel
theorem d_X5_op_238 : decode cX5_op 238 = .ok (.invokevirtual 114, 3) := by decide +kernel
theorem d_X5_op_241 : decode cX5_op 241 = .ok (.iload_n 1, 1) := by decide +kernel
theorem d_X5_op_242 : decode cX5_op 242 = .ok (.iconst 2, 1) := by decide +kernel
theorem d_X5_op_243 : decode cX5_op 243 = .ok (.if_icmp .eq 8, 3) := by decide +kernel
theorem d_X5_op_246 : decode cX5_op 246 = .ok (.iload_n 1, 1) := by decide +kernel
theorem d_X5_op_247 : decode cX5_op 247 = .ok (.iconst 3, 1) := by decide +kernel
theorem d_X5_op_248 : decode cX5_op 248 = .ok (.if_icmp .ne 52, 3) := by decide +kernel
theorem d_X5_op_251 : decode cX5_op 251 = .ok (.aload_n 0, 1) := by decide +kernel
theorem d_X5_op_252 : decode cX5_op 252 = .ok (.iload_n 2, 1) := by decide +kernel
theorem d_X5_op_253 : decode cX5_op 253 = .ok (.iload 6, 2) := by decide +kernel
theorem d_X5_op_255 : decode cX5_op 255 = .ok (.invokevirtual 110, 3) := by decide +kernel
theorem d_X5_op_258 : decode cX5_op 258 = .ok (.aload_n 0, 1) := by decide +kernel
theorem d_X5_op_259 : decode cX5_op 259 = .ok (.iload 9, 2) := by decide +kernel
theorem d_X5_op_261 : decode cX5_op 261 = .ok (.invokevirtual 88, 3) := by decide +kernel
theorem d_X5_op_264 : decode cX5_op 264 = .ok (.iload_n 1, 1) := by decide +kernel
theorem d_X5_op_265 : decode cX5_op 265 = .ok (.iconst 2, 1) := by decide +kernel
theorem d_X5_op_266 : decode cX5_op 266 = .ok (.if_icmp .ne 90, 3) := by decide +kernel
theorem d_X5_op_269 : decode cX5_op 269 = .ok (.aload_n 0, 1) := by decide +kernel
theorem d_X5_op_270 : decode cX5_op 270 = .ok (.getfield 18, 3) := by decide +kernel
theorem d_X5_op_273 : decode cX5_op 273 = .ok (.iconst 0, 1) := by decide +kernel
theorem d_X5_op_274 : decode cX5_op 274 = .ok (.aload_n 0, 1) := by decide +kernel
theorem d_X5_op_275 : decode cX5_op 275 = .ok (.aload_n 0, 1) := by decide +kernel
theorem d_X5_op_276 : decode cX5_op 276 = .ok (.getfield 27, 3) := by decide +kernel
theorem d_X5_op_279 : decode cX5_op 279 = .ok (.iload 9, 2) := by decide +kernel
theorem d_X5_op_281 : decode cX5_op 281 = .ok (.iconst 2, 1) := by decide +kernel
theorem d_X5_op_282 : decode cX5_op 282 = .ok (.iload 9, 2) := by decide +kernel
theorem d_X5_op_284 : decode cX5_op 284 = .ok (.imul, 1) := by decide +kernel
theorem d_X5_op_285 : decode cX5_op 285 = .ok (.invokevirtual 76, 3) := by decide +kernel
theorem d_X5_op_288 : decode cX5_op 288 = .ok (.ifCond .eq 7, 3) := by decide +kernel
theorem d_X5_op_291 : decode cX5_op 291 = .ok (.iconst 0, 1) := by decide +kernel
theorem d_X5_op_292 : decode cX5_op 292 = .ok (.goto 4, 3) := by decide +kernel
theorem d_X5_op_295 : decode cX5_op 295 = .ok (.iconst 1, 1) := by decide +kernel
theorem d_X5_op_296 : decode cX5_op 296 = .ok (.iastore, 1) := by decide +kernel
theorem d_X5_op_297 : decode cX5_op 297 = .ok (.goto 59, 3) := by decide +kernel
theorem d_X5_op_300 : decode cX5_op 300 = .ok (.iload_n 1, 1) := by decide +kernel
theorem d_X5_op_301 : decode cX5_op 301 = .ok (.iconst 3, 1) := by decide +kernel
theorem d_X5_op_302 : decode cX5_op 302 = .ok (.if_icmp .le 19, 3) := by decide +kernel
theorem d_X5_op_305 : decode cX5_op 305 = .ok (.iload_n 1, 1) := by decide +kernel
theorem d_X5_op_306 : decode cX5_op 306 = .ok (.bipush 8, 2) := by decide +kernel
theorem d_X5_op_308 : decode cX5_op 308 = .ok (.if_icmp .ge 13, 3) := by decide +kernel
theorem d_X5_op_311 : decode cX5_op 311 = .ok (.aload_n 0, 1) := by decide +kernel
theorem d_X5_op_312 : decode cX5_op 312 = .ok (.iload_n 1, 1) := by decide +kernel
theorem d_X5_op_313 : decode cX5_op 313 = .ok (.iload 9, 2) := by decide +kernel
theorem d_X5_op_315 : decode cX5_op 315 = .ok (.invokevirtual 117, 3) := by decide +kernel
theorem d_X5_op_318 : decode cX5_op 318 = .ok (.goto 38, 3) := by decide +kernel
theorem d_X5_op_321 : decode cX5_op 321 = .ok (.iload_n 1, 1) := by decide +kernel
theorem d_X5_op_322 : decode cX5_op 322 = .ok (.bipush 7, 2) := by decide +kernel
theorem d_X5_op_324 : decode cX5_op 324 = .ok (.if_icmp .le 19, 3) := by decide +kernel
theorem d_X5_op_327 : decode cX5_op 327 = .ok (.iload_n 1, 1) := by decide +kernel
theorem d_X5_op_328 : decode cX5_op 328 = .ok (.bipush 11, 2) := by decide +kernel
theorem d_X5_op_330 : decode cX5_op 330 = .ok (.if_icmp .ge 13, 3) := by decide +kernel
theorem d_X5_op_333 : decode cX5_op 333 = .ok (.aload_n 0, 1) := by decide +kernel
theorem d_X5_op_334 : decode cX5_op 334 = .ok (.iload_n 1, 1) := by decide +kernel
theorem d_X5_op_335 : decode cX5_op 335 = .ok (.iload 9, 2) := by decide +kernel
theorem d_X5_op_337 : decode cX5_op 337 = .ok (.invokevirtual 120, 3) := by decide +kernel
theorem d_X5_op_340 : decode cX5_op 340 = .ok (.goto 16, 3) := by decide +kernel
theorem d_X5_op_343 : decode cX5_op 343 = .ok (.iload_n 1, 1) := by decide +kernel
theorem d_X5_op_344 : decode cX5_op 344 = .ok (.bipush 10, 2) := by decide +kernel
theorem d_X5_op_346 : decode cX5_op 346 = .ok (.if_icmp .le 10, 3) := by decide +kernel
theorem d_X5_op_349 : decode cX5_op 349 = .ok (.aload_n 0, 1) := by decide +kernel
theorem d_X5_op_350 : decode cX5_op 350 = .ok (.iload_n 1, 1) := by decide +kernel
theorem d_X5_op_351 : decode cX5_op 351 = .ok (.iload 9, 2) := by decide +kernel
theorem d_X5_op_353 : decode cX5_op 353 = .ok (.invokevirtual 123, 3) := by decide +kernel
theorem d_X5_op_356 : decode cX5_op 356 = .ok (.iload_n 1, 1) := by decide +kernel
theorem d_X5_op_357 : decode cX5_op 357 = .ok (.iconst 3, 1) := by decide +kernel
theorem d_X5_op_358 : decode cX5_op 358 = .ok (.if_icmp .ne 8, 3) := by decide +kernel
theorem d_X5_op_361 : decode cX5_op 361 = .ok (.iload 9, 2) := by decide +kernel
theorem d_X5_op_363 : decode cX5_op 363 = .ok (.goto 4, 3) := by decide +kernel
theorem d_X5_op_366 : decode cX5_op 366 = .ok (.iconst 0, 1) := by decide +kernel
theorem d_X5_op_367 : decode cX5_op 367 = .ok (.istore 10, 2) := by decide +kernel
theorem d_X5_op_369 : decode cX5_op 369 = .ok (.aload_n 0, 1) := by decide +kernel
theorem d_X5_op_370 : decode cX5_op 370 = .ok (.getfield 18, 3) := by decide +kernel
theorem d_X5_op_373 : decode cX5_op 373 = .ok (.iconst 2, 1) := by decide +kernel
theorem d_X5_op_374 : decode cX5_op 374 = .ok (.aload_n 0, 1) := by decide +kernel
theorem d_X5_op_375 : decode cX5_op 375 = .ok (.aload_n 0, 1) := by decide +kernel
theorem d_X5_op_376 : decode cX5_op 376 = .ok (.getfield 27, 3) := by decide +kernel
theorem d_X5_op_379 : decode cX5_op 379 = .ok (.iload 10, 2) := by decide +kernel
theorem d_X5_op_381 : decode cX5_op 381 = .ok (.iload 10, 2) := by decide +kernel
theorem d_X5_op_383 : decode cX5_op 383 = .ok (.iload 9, 2) := by decide +kernel
theorem d_X5_op_385 : decode cX5_op 385 = .ok (.iadd, 1) := by decide +kernel
theorem d_X5_op_386 : decode cX5_op 386 = .ok (.invokevirtual 76, 3) := by decide +kernel
theorem d_X5_op_389 : decode cX5_op 389 = .ok (.ifCond .eq 7, 3) := by decide +kernel
theorem d_X5_op_392 : decode cX5_op 392 = .ok (.iconst 1, 1) := by decide +kernel
theorem d_X5_op_393 : decode cX5_op 393 = .ok (.goto 4, 3) := by decide +kernel
theorem d_X5_op_396 : decode cX5_op 396 = .ok (.iconst 0, 1) := by decide +kernel
theorem d_X5_op_397 : decode cX5_op 397 = .ok (.iastore, 1) := by decide +kernel
theorem d_X5_op_398 : decode cX5_op 398 = .ok (.aload_n 0, 1) := by decide +kernel
theorem d_X5_op_399 : decode cX5_op 399 = .ok (.getfield 18, 3) := by decide +kernel
theorem d_X5_op_402 : decode cX5_op 402 = .ok (.iconst 3, 1) := by decide +kernel
theorem d_X5_op_403 : decode cX5_op 403 = .ok (.aload_n 0, 1) := by decide +kernel
theorem d_X5_op_404 : decode cX5_op 404 = .ok (.getfield 27, 3) := by decide +kernel
theorem d_X5_op_407 : decode cX5_op 407 = .ok (.iload 10, 2) := by decide +kernel
theorem d_X5_op_409 : decode cX5_op 409 = .ok (.iload 9, 2) := by decide +kernel
theorem d_X5_op_411 : decode cX5_op 411 = .ok (.iadd, 1) := by decide +kernel
theorem d_X5_op_412 : decode cX5_op 412 = .ok (.iconst 1, 1) := by decide +kernel
theorem d_X5_op_413 : decode cX5_op 413 = .ok (.isub, 1) := by decide +kernel
theorem d_X5_op_414 : decode cX5_op 414 = .ok (.iaload, 1) := by decide +kernel
theorem d_X5_op_415 : decode cX5_op 415 = .ok (.iastore, 1) := by decide +kernel
theorem d_X5_op_416 : decode cX5_op 416 = .ok (.aload_n 0, 1) := by decide +kernel
theorem d_X5_op_417 : decode cX5_op 417 = .ok (.iload 10, 2) := by decide +kernel
theorem d_X5_op_419 : decode cX5_op 419 = .ok (.iload 9, 2) := by decide +kernel
theorem d_X5_op_421 : decode cX5_op 421 = .ok (.invokevirtual 126, 3) := by decide +kernel
theorem d_X5_op_424 : decode cX5_op 424 = .ok (.ireturn, 1) := by decide +kernel
theorem sg_X5_op_0 {L : Nat} {xs : Nat → Int32} {σ : ks_St} {mc ms : Nat} {P : ka_O → ks_St → Prop} {x1 : Int32} {x2 : Int32} {x3 : Int32}  (k2 : (x1 < 16) → ks_W L xs mX5_op rm_X5_op 16 [(0, .ref 17), (1, .int x1), (2, .int x2), (3, .int x3)] [] σ mc ms P) (k4 : (¬ (x1 < 16)) → (18 < x1) → ks_W L xs mX5_op rm_X5_op 16 [(0, .ref 17), (1, .int x1), (2, .int x2), (3, .int x3)] [] σ mc ms P) (k5 : (¬ (x1 < 16)) → (¬ (18 < x1)) → ks_W L xs mX5_op rm_X5_op 17 [(0, .ref 17), (1, .int x1), (2, .int x2), (3, .int x3)] [.int 1] σ mc ms P) : ks_W L xs mX5_op rm_X5_op 0 [(0, .ref 17), (1, .int x1), (2, .int x2), (3, .int x3)] [] σ mc ms P := by
  refine ka_iload_n d_X5_op_0 rfl rfl 1 rfl ?_
  refine ka_bipush (v := 16) d_X5_op_1 rfl (by decide) ?_
  refine ka_icmp_lt (tgt := 16) d_X5_op_3 (by decide) rfl (fun c1 => ?_) (fun c1 => ?_)
  · exact (k2 c1)
  · refine ka_iload_n d_X5_op_6 rfl rfl 1 rfl ?_
    refine ka_bipush (v := 18) d_X5_op_7 rfl (by decide) ?_
    refine ka_icmp_gt (tgt := 16) d_X5_op_9 (by decide) rfl (fun c3 => ?_) (fun c3 => ?_)
    · exact (k4 c1 c3)
    · refine ka_iconst (v := 1) d_X5_op_12 rfl (by decide) ?_
      refine ka_goto (q := 17) d_X5_op_13 (by decide) ?_
      exact (k5 c1 c3)
theorem sg_X5_op_16 {L : Nat} {xs : Nat → Int32} {σ : ks_St} {mc ms : Nat} {P : ka_O → ks_St → Prop} {x1 : Int32} {x2 : Int32} {x3 : Int32}  (k1 : ks_W L xs mX5_op rm_X5_op 17 [(0, .ref 17), (1, .int x1), (2, .int x2), (3, .int x3)] [.int 0] σ mc ms P) : ks_W L xs mX5_op rm_X5_op 16 [(0, .ref 17), (1, .int x1), (2, .int x2), (3, .int x3)] [] σ mc ms P := by
  refine ka_iconst (v := 0) d_X5_op_16 rfl (by decide) ?_
  exact k1
theorem sg_X5_op_17 {L : Nat} {xs : Nat → Int32} {σ : ks_St} {mc ms : Nat} {P : ka_O → ks_St → Prop} {x1 : Int32} {x2 : Int32} {x3 : Int32} {s0 : Int32}  (k1 : ks_W L xs mX5_op rm_X5_op 21 [(0, .ref 17), (1, .int x1), (2, .int x2), (3, .int x3), (4, .int s0)] [.int x2, .ref 17] σ mc ms P) : ks_W L xs mX5_op rm_X5_op 17 [(0, .ref 17), (1, .int x1), (2, .int x2), (3, .int x3)] [.int s0] σ mc ms P := by
  refine ka_istore (ls' := [(4, .int s0), (0, .ref 17), (1, .int x1), (2, .int x2), (3, .int x3)]) d_X5_op_17 rfl (by decide) rfl ?_
  refine ka_aload_n d_X5_op_19 rfl rfl 1 rfl ?_
  refine ka_iload_n d_X5_op_20 rfl rfl 3 rfl ?_
  refine ka_sub [1, 2, 3, 4, 0] rfl ?_
  exact k1
theorem cs_X5_op_21 {L : Nat} {xs : Nat → Int32} {σ : ks_St} {mc ms : Nat} {P : ka_O → ks_St → Prop} {f : Int32 → ks_St → Prop} {x1 : Int32} {x2 : Int32} {x3 : Int32} {x4 : Int32} {s1 : Int32} (hK : ks_M L xs mX5_isWord rm_X5_isWord [.ref 17, .int s1] σ (pi_ f)) (kr : ∀ r σ', f r σ' → ks_W L xs mX5_op rm_X5_op 24 [(0, .ref 17), (1, .int x1), (2, .int x2), (3, .int x3), (4, .int x4)] [.int r] σ' mc ms P) : ks_W L xs mX5_op rm_X5_op 21 [(0, .ref 17), (1, .int x1), (2, .int x2), (3, .int x3), (4, .int x4)] [.int s1, .ref 17] σ mc ms P := by
  refine ks_callV (q := 24) (o := 17) (ci := 5) (As := [.int s1]) (st := []) d_X5_op_21 rfl rfl (by decide) rfl rfl lk_X5_64 ⟨by decide, by decide⟩ (Nat.le_of_ble_eq_true rfl) ⟨Nat.le_refl _, Nat.le_refl _⟩ hK (fun v σ' hq => ?_) (fun E σ' hq => ?_)
  · obtain ⟨r, e, hf⟩ := hq; cases e; exact kr r σ' hf
  · obtain ⟨r, e, hf⟩ := hq; cases e
theorem sg_X5_op_24 {L : Nat} {xs : Nat → Int32} {σ : ks_St} {mc ms : Nat} {P : ka_O → ks_St → Prop} {x1 : Int32} {x2 : Int32} {x3 : Int32} {x4 : Int32} {s0 : Int32}  (k2 : (s0 = 0) → ks_W L xs mX5_op rm_X5_op 40 [(0, .ref 17), (1, .int x1), (2, .int x2), (3, .int x3), (4, .int x4)] [] σ mc ms P) (k4 : (¬ (s0 = 0)) → (¬ x4 = 0) → ks_W L xs mX5_op rm_X5_op 44 [(0, .ref 17), (1, .int x1), (2, .int x2), (3, .int x3), (4, .int x4)] [] σ mc ms P) (k5 : (¬ (s0 = 0)) → (x4 = 0) → ks_W L xs mX5_op rm_X5_op 34 [(0, .ref 17), (1, .int x1), (2, .int x2), (3, .int x3), (4, .int x4)] [.int x3, .ref 17] σ mc ms P) : ks_W L xs mX5_op rm_X5_op 24 [(0, .ref 17), (1, .int x1), (2, .int x2), (3, .int x3), (4, .int x4)] [.int s0] σ mc ms P := by
  refine ka_if_eq (tgt := 40) d_X5_op_24 (by decide) rfl (fun c1 => ?_) (fun c1 => ?_)
  · exact (k2 c1)
  · refine ka_iload d_X5_op_27 rfl 4 rfl ?_
    refine ka_if_ne (tgt := 44) d_X5_op_29 (by decide) rfl (fun c3 => ?_) (fun c3 => ?_)
    · exact (k4 c1 c3)
    · refine ka_aload_n d_X5_op_32 rfl rfl 0 rfl ?_
      refine ka_iload_n d_X5_op_33 rfl rfl 3 rfl ?_
      exact (k5 c1 c3)
theorem cs_X5_op_34 {L : Nat} {xs : Nat → Int32} {σ : ks_St} {mc ms : Nat} {P : ka_O → ks_St → Prop} {f : Int32 → ks_St → Prop} {x1 : Int32} {x2 : Int32} {x3 : Int32} {x4 : Int32} {s1 : Int32} (hK : ks_M L xs mX5_isWord rm_X5_isWord [.ref 17, .int s1] σ (pi_ f)) (kr : ∀ r σ', f r σ' → ks_W L xs mX5_op rm_X5_op 37 [(0, .ref 17), (1, .int x1), (2, .int x2), (3, .int x3), (4, .int x4)] [.int r] σ' mc ms P) : ks_W L xs mX5_op rm_X5_op 34 [(0, .ref 17), (1, .int x1), (2, .int x2), (3, .int x3), (4, .int x4)] [.int s1, .ref 17] σ mc ms P := by
  refine ks_callV (q := 37) (o := 17) (ci := 5) (As := [.int s1]) (st := []) d_X5_op_34 rfl rfl (by decide) rfl rfl lk_X5_64 ⟨by decide, by decide⟩ (Nat.le_of_ble_eq_true rfl) ⟨Nat.le_refl _, Nat.le_refl _⟩ hK (fun v σ' hq => ?_) (fun E σ' hq => ?_)
  · obtain ⟨r, e, hf⟩ := hq; cases e; exact kr r σ' hf
  · obtain ⟨r, e, hf⟩ := hq; cases e
theorem sg_X5_op_37 {L : Nat} {xs : Nat → Int32} {σ : ks_St} {mc ms : Nat} {P : ka_O → ks_St → Prop} {x1 : Int32} {x2 : Int32} {x3 : Int32} {x4 : Int32} {s0 : Int32}  (k2 : (¬ s0 = 0) → ks_W L xs mX5_op rm_X5_op 44 [(0, .ref 17), (1, .int x1), (2, .int x2), (3, .int x3), (4, .int x4)] [] σ mc ms P) (k3 : (s0 = 0) → ks_W L xs mX5_op rm_X5_op 40 [(0, .ref 17), (1, .int x1), (2, .int x2), (3, .int x3), (4, .int x4)] [] σ mc ms P) : ks_W L xs mX5_op rm_X5_op 37 [(0, .ref 17), (1, .int x1), (2, .int x2), (3, .int x3), (4, .int x4)] [.int s0] σ mc ms P := by
  refine ka_if_ne (tgt := 44) d_X5_op_37 (by decide) rfl (fun c1 => ?_) (fun c1 => ?_)
  · exact (k2 c1)
  · exact (k3 c1)
theorem sg_X5_op_40 {L : Nat} {xs : Nat → Int32} {σ : ks_St} {mc ms : Nat} {P : ka_O → ks_St → Prop} {x1 : Int32} {x2 : Int32} {x3 : Int32} {x4 : Int32}  (k1 : ks_W L xs mX5_op rm_X5_op 45 [(0, .ref 17), (1, .int x1), (2, .int x2), (3, .int x3), (4, .int x4)] [.int 1] σ mc ms P) : ks_W L xs mX5_op rm_X5_op 40 [(0, .ref 17), (1, .int x1), (2, .int x2), (3, .int x3), (4, .int x4)] [] σ mc ms P := by
  refine ka_iconst (v := 1) d_X5_op_40 rfl (by decide) ?_
  refine ka_goto (q := 45) d_X5_op_41 (by decide) ?_
  exact k1
theorem sg_X5_op_44 {L : Nat} {xs : Nat → Int32} {σ : ks_St} {mc ms : Nat} {P : ka_O → ks_St → Prop} {x1 : Int32} {x2 : Int32} {x3 : Int32} {x4 : Int32}  (k1 : ks_W L xs mX5_op rm_X5_op 45 [(0, .ref 17), (1, .int x1), (2, .int x2), (3, .int x3), (4, .int x4)] [.int 0] σ mc ms P) : ks_W L xs mX5_op rm_X5_op 44 [(0, .ref 17), (1, .int x1), (2, .int x2), (3, .int x3), (4, .int x4)] [] σ mc ms P := by
  refine ka_iconst (v := 0) d_X5_op_44 rfl (by decide) ?_
  exact k1
theorem sg_X5_op_45 {L : Nat} {xs : Nat → Int32} {σ : ks_St} {mc ms : Nat} {P : ka_O → ks_St → Prop} {x1 : Int32} {x2 : Int32} {x3 : Int32} {x4 : Int32} {s0 : Int32}  (k2 : (x4 = 0) → ks_W L xs mX5_op rm_X5_op 57 [(0, .ref 17), (1, .int x1), (2, .int x2), (5, .int s0)] [.int x3] σ mc ms P) (k3 : (¬ (x4 = 0)) → ks_W L xs mX5_op rm_X5_op 57 [(0, .ref 17), (1, .int x1), (2, .int x2), (5, .int s0)] [.int x2] σ mc ms P) : ks_W L xs mX5_op rm_X5_op 45 [(0, .ref 17), (1, .int x1), (2, .int x2), (3, .int x3), (4, .int x4)] [.int s0] σ mc ms P := by
  refine ka_istore (ls' := [(5, .int s0), (0, .ref 17), (1, .int x1), (2, .int x2), (3, .int x3), (4, .int x4)]) d_X5_op_45 rfl (by decide) rfl ?_
  refine ka_iload d_X5_op_47 rfl 5 rfl ?_
  refine ka_if_eq (tgt := 56) d_X5_op_49 (by decide) rfl (fun c1 => ?_) (fun c1 => ?_)
  · refine ka_iload_n d_X5_op_56 rfl rfl 4 rfl ?_
    refine ka_sub [1, 2, 3, 0] rfl ?_
    exact (k2 c1)
  · refine ka_iload_n d_X5_op_52 rfl rfl 3 rfl ?_
    refine ka_goto (q := 57) d_X5_op_53 (by decide) ?_
    refine ka_sub [1, 2, 3, 0] rfl ?_
    exact (k3 c1)
theorem sg_X5_op_57 {L : Nat} {xs : Nat → Int32} {σ : ks_St} {mc ms : Nat} {P : ka_O → ks_St → Prop} {x1 : Int32} {x2 : Int32} {x5 : Int32} {s0 : Int32}  (k2 : (¬ x5 = 0) → ks_W L xs mX5_op rm_X5_op 108 [(0, .ref 17), (1, .int x1), (2, .int x2), (5, .int x5), (6, .int s0)] [] σ mc ms P) (k4 : (x5 = 0) → (x1 < 0) → ks_W L xs mX5_op rm_X5_op 108 [(0, .ref 17), (1, .int x1), (2, .int x2), (5, .int x5), (6, .int s0)] [] σ mc ms P) (k6 : (x5 = 0) → (¬ (x1 < 0)) → (18 < x1) → ks_W L xs mX5_op rm_X5_op 108 [(0, .ref 17), (1, .int x1), (2, .int x2), (5, .int x5), (6, .int s0)] [] σ mc ms P) (v7 : (x5 = 0) → (¬ (x1 < 0)) → (¬ (18 < x1)) → vp_in x2 600) (v8 : (x5 = 0) → (¬ (x1 < 0)) → (¬ (18 < x1)) → vp_in s0 600) (k10 : (x5 = 0) → (¬ (x1 < 0)) → (¬ (18 < x1)) → (¬ (sf_ σ 18 x2.toNatClampNeg) = (sf_ σ 18 s0.toNatClampNeg)) → ks_W L xs mX5_op rm_X5_op 108 [(0, .ref 17), (1, .int x1), (2, .int x2), (5, .int x5), (6, .int s0)] [] σ mc ms P) (k12 : (x5 = 0) → (¬ (x1 < 0)) → (¬ (18 < x1)) → ((sf_ σ 18 x2.toNatClampNeg) = (sf_ σ 18 s0.toNatClampNeg)) → (¬ x1 = 18) → ks_W L xs mX5_op rm_X5_op 112 [(0, .ref 17), (1, .int x1), (2, .int x2), (5, .int x5), (6, .int s0)] [] σ mc ms P) (v13 : (x5 = 0) → (¬ (x1 < 0)) → (¬ (18 < x1)) → ((sf_ σ 18 x2.toNatClampNeg) = (sf_ σ 18 s0.toNatClampNeg)) → (x1 = 18) → vp_in x2 600) (k15 : (x5 = 0) → (¬ (x1 < 0)) → (¬ (18 < x1)) → ((sf_ σ 18 x2.toNatClampNeg) = (sf_ σ 18 s0.toNatClampNeg)) → (x1 = 18) → (((sf_ σ 18 x2.toNatClampNeg) - (sf_ σ 18 x2.toNatClampNeg) / 8 * 8) = 0) → ks_W L xs mX5_op rm_X5_op 112 [(0, .ref 17), (1, .int x1), (2, .int x2), (5, .int x5), (6, .int s0)] [] σ mc ms P) (k16 : (x5 = 0) → (¬ (x1 < 0)) → (¬ (18 < x1)) → ((sf_ σ 18 x2.toNatClampNeg) = (sf_ σ 18 s0.toNatClampNeg)) → (x1 = 18) → (¬ (((sf_ σ 18 x2.toNatClampNeg) - (sf_ σ 18 x2.toNatClampNeg) / 8 * 8) = 0)) → ks_W L xs mX5_op rm_X5_op 108 [(0, .ref 17), (1, .int x1), (2, .int x2), (5, .int x5), (6, .int s0)] [] σ mc ms P) : ks_W L xs mX5_op rm_X5_op 57 [(0, .ref 17), (1, .int x1), (2, .int x2), (5, .int x5)] [.int s0] σ mc ms P := by
  refine ka_istore (ls' := [(6, .int s0), (0, .ref 17), (1, .int x1), (2, .int x2), (5, .int x5)]) d_X5_op_57 rfl (by decide) rfl ?_
  refine ka_iload d_X5_op_59 rfl 4 rfl ?_
  refine ka_if_ne (tgt := 108) d_X5_op_61 (by decide) rfl (fun c1 => ?_) (fun c1 => ?_)
  · refine ka_sub [1, 2, 3, 4, 0] rfl ?_
    exact (k2 c1)
  · refine ka_iload_n d_X5_op_64 rfl rfl 2 rfl ?_
    refine ka_if_lt (tgt := 108) d_X5_op_65 (by decide) rfl (fun c3 => ?_) (fun c3 => ?_)
    · refine ka_sub [1, 2, 3, 4, 0] rfl ?_
      exact (k4 c1 c3)
    · refine ka_iload_n d_X5_op_68 rfl rfl 2 rfl ?_
      refine ka_bipush (v := 18) d_X5_op_69 rfl (by decide) ?_
      refine ka_icmp_gt (tgt := 108) d_X5_op_71 (by decide) rfl (fun c5 => ?_) (fun c5 => ?_)
      · refine ka_sub [1, 2, 3, 4, 0] rfl ?_
        exact (k6 c1 c3 c5)
      · refine ka_aload_n d_X5_op_74 rfl rfl 1 rfl ?_
        refine gf_X5_3 d_X5_op_75 rfl fl_X5_7 ?_
        refine ka_iload_n d_X5_op_78 rfl rfl 3 rfl ?_
        refine ks_iald row_18 d_X5_op_79 rfl (v7 c1 c3 c5) ?_
        refine ka_aload_n d_X5_op_80 rfl rfl 1 rfl ?_
        refine gf_X5_3 d_X5_op_81 rfl fl_X5_7 ?_
        refine ka_iload d_X5_op_84 rfl 0 rfl ?_
        refine ks_iald row_18 d_X5_op_86 rfl (v8 c1 c3 c5) ?_
        refine ka_icmp_ne (tgt := 108) d_X5_op_87 (by decide) rfl (fun c9 => ?_) (fun c9 => ?_)
        · refine ka_sub [1, 2, 3, 4, 0] rfl ?_
          exact (k10 c1 c3 c5 c9)
        · refine ka_iload_n d_X5_op_90 rfl rfl 2 rfl ?_
          refine ka_bipush (v := 18) d_X5_op_91 rfl (by decide) ?_
          refine ka_icmp_ne (tgt := 112) d_X5_op_93 (by decide) rfl (fun c11 => ?_) (fun c11 => ?_)
          · refine ka_sub [1, 2, 3, 4, 0] rfl ?_
            exact (k12 c1 c3 c5 c9 c11)
          · refine ka_aload_n d_X5_op_96 rfl rfl 1 rfl ?_
            refine gf_X5_3 d_X5_op_97 rfl fl_X5_7 ?_
            refine ka_iload_n d_X5_op_100 rfl rfl 3 rfl ?_
            refine ks_iald row_18 d_X5_op_101 rfl (v13 c1 c3 c5 c9 c11) ?_
            refine ka_bipush (v := 8) d_X5_op_102 rfl (by decide) ?_
            refine ka_irem d_X5_op_104 rfl (by decide) ?_
            refine ka_if_eq (tgt := 112) d_X5_op_105 (by decide) rfl (fun c14 => ?_) (fun c14 => ?_)
            · refine ka_sub [1, 2, 3, 4, 0] rfl ?_
              exact (k15 c1 c3 c5 c9 c11 c14)
            · refine ka_sub [1, 2, 3, 4, 0] rfl ?_
              exact (k16 c1 c3 c5 c9 c11 c14)
theorem sg_X5_op_108 {L : Nat} {xs : Nat → Int32} {σ : ks_St} {mc ms : Nat} {P : ka_O → ks_St → Prop} {x1 : Int32} {x2 : Int32} {x5 : Int32} {x6 : Int32}  (k1 : ks_W L xs mX5_op rm_X5_op 113 [(0, .ref 17), (1, .int x1), (2, .int x2), (5, .int x5), (6, .int x6)] [.int 1] σ mc ms P) : ks_W L xs mX5_op rm_X5_op 108 [(0, .ref 17), (1, .int x1), (2, .int x2), (5, .int x5), (6, .int x6)] [] σ mc ms P := by
  refine ka_iconst (v := 1) d_X5_op_108 rfl (by decide) ?_
  refine ka_goto (q := 113) d_X5_op_109 (by decide) ?_
  exact k1
theorem sg_X5_op_112 {L : Nat} {xs : Nat → Int32} {σ : ks_St} {mc ms : Nat} {P : ka_O → ks_St → Prop} {x1 : Int32} {x2 : Int32} {x5 : Int32} {x6 : Int32}  (k1 : ks_W L xs mX5_op rm_X5_op 113 [(0, .ref 17), (1, .int x1), (2, .int x2), (5, .int x5), (6, .int x6)] [.int 0] σ mc ms P) : ks_W L xs mX5_op rm_X5_op 112 [(0, .ref 17), (1, .int x1), (2, .int x2), (5, .int x5), (6, .int x6)] [] σ mc ms P := by
  refine ka_iconst (v := 0) d_X5_op_112 rfl (by decide) ?_
  exact k1
theorem sg_X5_op_113 {L : Nat} {xs : Nat → Int32} {σ : ks_St} {mc ms : Nat} {P : ka_O → ks_St → Prop} {x1 : Int32} {x2 : Int32} {x5 : Int32} {x6 : Int32} {s0 : Int32}  (k2 : (¬ s0 = 0) → ks_W L xs mX5_op rm_X5_op 135 [(0, .ref 17), (1, .int x1), (2, .int x2), (5, .int x5), (6, .int x6), (7, .int s0)] [] σ mc ms P) (k4 : (s0 = 0) → (x1 < 4) → ks_W L xs mX5_op rm_X5_op 135 [(0, .ref 17), (1, .int x1), (2, .int x2), (5, .int x5), (6, .int x6), (7, .int s0)] [] σ mc ms P) (k6 : (s0 = 0) → (¬ (x1 < 4)) → (7 < x1) → ks_W L xs mX5_op rm_X5_op 135 [(0, .ref 17), (1, .int x1), (2, .int x2), (5, .int x5), (6, .int x6), (7, .int s0)] [] σ mc ms P) (k7 : (s0 = 0) → (¬ (x1 < 4)) → (¬ (7 < x1)) → ks_W L xs mX5_op rm_X5_op 136 [(0, .ref 17), (1, .int x1), (2, .int x2), (5, .int x5), (6, .int x6), (7, .int s0)] [.int 1] σ mc ms P) : ks_W L xs mX5_op rm_X5_op 113 [(0, .ref 17), (1, .int x1), (2, .int x2), (5, .int x5), (6, .int x6)] [.int s0] σ mc ms P := by
  refine ka_istore (ls' := [(7, .int s0), (0, .ref 17), (1, .int x1), (2, .int x2), (5, .int x5), (6, .int x6)]) d_X5_op_113 rfl (by decide) rfl ?_
  refine ka_iload d_X5_op_115 rfl 0 rfl ?_
  refine ka_if_ne (tgt := 135) d_X5_op_117 (by decide) rfl (fun c1 => ?_) (fun c1 => ?_)
  · refine ka_sub [1, 2, 3, 4, 5, 0] rfl ?_
    exact (k2 c1)
  · refine ka_iload_n d_X5_op_120 rfl rfl 2 rfl ?_
    refine ka_iconst (v := 4) d_X5_op_121 rfl (by decide) ?_
    refine ka_icmp_lt (tgt := 135) d_X5_op_122 (by decide) rfl (fun c3 => ?_) (fun c3 => ?_)
    · refine ka_sub [1, 2, 3, 4, 5, 0] rfl ?_
      exact (k4 c1 c3)
    · refine ka_iload_n d_X5_op_125 rfl rfl 2 rfl ?_
      refine ka_bipush (v := 7) d_X5_op_126 rfl (by decide) ?_
      refine ka_icmp_gt (tgt := 135) d_X5_op_128 (by decide) rfl (fun c5 => ?_) (fun c5 => ?_)
      · refine ka_sub [1, 2, 3, 4, 5, 0] rfl ?_
        exact (k6 c1 c3 c5)
      · refine ka_iconst (v := 1) d_X5_op_131 rfl (by decide) ?_
        refine ka_goto (q := 136) d_X5_op_132 (by decide) ?_
        refine ka_sub [1, 2, 3, 4, 5, 0] rfl ?_
        exact (k7 c1 c3 c5)
theorem sg_X5_op_135 {L : Nat} {xs : Nat → Int32} {σ : ks_St} {mc ms : Nat} {P : ka_O → ks_St → Prop} {x1 : Int32} {x2 : Int32} {x5 : Int32} {x6 : Int32} {x7 : Int32}  (k1 : ks_W L xs mX5_op rm_X5_op 136 [(0, .ref 17), (1, .int x1), (2, .int x2), (5, .int x5), (6, .int x6), (7, .int x7)] [.int 0] σ mc ms P) : ks_W L xs mX5_op rm_X5_op 135 [(0, .ref 17), (1, .int x1), (2, .int x2), (5, .int x5), (6, .int x6), (7, .int x7)] [] σ mc ms P := by
  refine ka_iconst (v := 0) d_X5_op_135 rfl (by decide) ?_
  exact k1
theorem sg_X5_op_136 {L : Nat} {xs : Nat → Int32} {σ : ks_St} {mc ms : Nat} {P : ka_O → ks_St → Prop} {x1 : Int32} {x2 : Int32} {x5 : Int32} {x6 : Int32} {x7 : Int32} {s0 : Int32}  (k2 : (¬ x7 = 0) → ks_W L xs mX5_op rm_X5_op 150 [(0, .ref 17), (1, .int x1), (2, .int x2), (5, .int x5), (6, .int x6), (7, .int x7), (8, .int s0)] [] σ mc ms P) (k3 : (x7 = 0) → ks_W L xs mX5_op rm_X5_op 147 [(0, .ref 17), (1, .int x1), (2, .int x2), (5, .int x5), (6, .int x6), (7, .int x7), (8, .int s0)] [.int x6, .int x2, .ref 17] σ mc ms P) : ks_W L xs mX5_op rm_X5_op 136 [(0, .ref 17), (1, .int x1), (2, .int x2), (5, .int x5), (6, .int x6), (7, .int x7)] [.int s0] σ mc ms P := by
  refine ka_istore (ls' := [(8, .int s0), (0, .ref 17), (1, .int x1), (2, .int x2), (5, .int x5), (6, .int x6), (7, .int x7)]) d_X5_op_136 rfl (by decide) rfl ?_
  refine ka_iload d_X5_op_138 rfl 6 rfl ?_
  refine ka_if_ne (tgt := 150) d_X5_op_140 (by decide) rfl (fun c1 => ?_) (fun c1 => ?_)
  · refine ka_sub [1, 2, 3, 4, 5, 6, 0] rfl ?_
    exact (k2 c1)
  · refine ka_aload_n d_X5_op_143 rfl rfl 1 rfl ?_
    refine ka_iload_n d_X5_op_144 rfl rfl 3 rfl ?_
    refine ka_iload d_X5_op_145 rfl 5 rfl ?_
    refine ka_sub [1, 2, 3, 4, 5, 6, 0] rfl ?_
    exact (k3 c1)
theorem cs_X5_op_147 {L : Nat} {xs : Nat → Int32} {σ : ks_St} {mc ms : Nat} {P : ka_O → ks_St → Prop} {f : ks_St → Prop} {x1 : Int32} {x2 : Int32} {x5 : Int32} {x6 : Int32} {x7 : Int32} {x8 : Int32} {s1 : Int32} {s2 : Int32} (hK : ks_M L xs mX5_load rm_X5_load [.ref 17, .int s1, .int s2] σ (pv_ f)) (kr : ∀ σ', f σ' → ks_W L xs mX5_op rm_X5_op 150 [(0, .ref 17), (1, .int x1), (2, .int x2), (5, .int x5), (6, .int x6), (7, .int x7), (8, .int x8)] [] σ' mc ms P) : ks_W L xs mX5_op rm_X5_op 147 [(0, .ref 17), (1, .int x1), (2, .int x2), (5, .int x5), (6, .int x6), (7, .int x7), (8, .int x8)] [.int s2, .int s1, .ref 17] σ mc ms P := by
  refine ks_callV (q := 150) (o := 17) (ci := 5) (As := [.int s1, .int s2]) (st := []) d_X5_op_147 rfl rfl (by decide) rfl rfl lk_X5_110 ⟨by decide, by decide⟩ (Nat.le_of_ble_eq_true rfl) ⟨Nat.le_refl _, Nat.le_refl _⟩ hK (fun v σ' hq => ?_) (fun E σ' hq => ?_)
  · obtain ⟨e, hf⟩ := hq; cases e; exact kr σ' hf
  · obtain ⟨e, hf⟩ := hq; cases e
theorem sg_X5_op_150 {L : Nat} {xs : Nat → Int32} {σ : ks_St} {mc ms : Nat} {P : ka_O → ks_St → Prop} {x1 : Int32} {x2 : Int32} {x5 : Int32} {x6 : Int32} {x7 : Int32} {x8 : Int32}  (k2 : (x8 = 0) → ks_W L xs mX5_op rm_X5_op 183 [(0, .ref 17), (1, .int x1), (2, .int x2), (6, .int x6)] [.int x7, .int x5, .ref 17] σ mc ms P) (v3 : (¬ (x8 = 0)) → vp_in x6 600) (k4 : (¬ (x8 = 0)) → ks_W L xs mX5_op rm_X5_op 173 [(0, .ref 17), (1, .int x1), (2, .int x2), (6, .int x6)] [.int (sf_ σ 18 x6.toNatClampNeg), .int 0, .ref 22, .ref 17, .int x7, .int x5, .ref 17] σ mc ms P) : ks_W L xs mX5_op rm_X5_op 150 [(0, .ref 17), (1, .int x1), (2, .int x2), (5, .int x5), (6, .int x6), (7, .int x7), (8, .int x8)] [] σ mc ms P := by
  refine ka_aload_n d_X5_op_150 rfl rfl 0 rfl ?_
  refine ka_iload d_X5_op_151 rfl 3 rfl ?_
  refine ka_iload d_X5_op_153 rfl 5 rfl ?_
  refine ka_iload d_X5_op_155 rfl 6 rfl ?_
  refine ka_if_eq (tgt := 183) d_X5_op_157 (by decide) rfl (fun c1 => ?_) (fun c1 => ?_)
  · refine ka_sub [0, 1, 2, 4] rfl ?_
    exact (k2 c1)
  · refine ka_aload_n d_X5_op_160 rfl rfl 0 rfl ?_
    refine ka_aload_n d_X5_op_161 rfl rfl 0 rfl ?_
    refine gf_X5_8 d_X5_op_162 rfl fl_X5_24 ?_
    refine ka_iconst (v := 0) d_X5_op_165 rfl (by decide) ?_
    refine ka_aload_n d_X5_op_166 rfl rfl 0 rfl ?_
    refine gf_X5_3 d_X5_op_167 rfl fl_X5_7 ?_
    refine ka_iload d_X5_op_170 rfl 4 rfl ?_
    refine ks_iald row_18 d_X5_op_172 rfl (v3 c1) ?_
    refine ka_sub [0, 1, 2, 4] rfl ?_
    exact (k4 c1)
theorem cs_X5_op_173 {L : Nat} {xs : Nat → Int32} {σ : ks_St} {mc ms : Nat} {P : ka_O → ks_St → Prop} {f : Int32 → ks_St → Prop} {x1 : Int32} {x2 : Int32} {x6 : Int32} {s1 : Int32} {s2 : Int32} {s5 : Int32} {s6 : Int32} (hK : ks_M L xs mX5_isNought rm_X5_isNought [.ref 17, .ref 22, .int s5, .int s6] σ (pi_ f)) (kr : ∀ r σ', f r σ' → ks_W L xs mX5_op rm_X5_op 176 [(0, .ref 17), (1, .int x1), (2, .int x2), (6, .int x6)] [.int r, .int s2, .int s1, .ref 17] σ' mc ms P) : ks_W L xs mX5_op rm_X5_op 173 [(0, .ref 17), (1, .int x1), (2, .int x2), (6, .int x6)] [.int s6, .int s5, .ref 22, .ref 17, .int s2, .int s1, .ref 17] σ mc ms P := by
  refine ks_callV (q := 176) (o := 17) (ci := 5) (As := [.ref 22, .int s5, .int s6]) (st := [.int s2, .int s1, .ref 17]) d_X5_op_173 rfl rfl (by decide) rfl rfl lk_X5_76 ⟨by decide, by decide⟩ (Nat.le_of_ble_eq_true rfl) ⟨Nat.le_refl _, Nat.le_refl _⟩ hK (fun v σ' hq => ?_) (fun E σ' hq => ?_)
  · obtain ⟨r, e, hf⟩ := hq; cases e; exact kr r σ' hf
  · obtain ⟨r, e, hf⟩ := hq; cases e
theorem sg_X5_op_176 {L : Nat} {xs : Nat → Int32} {σ : ks_St} {mc ms : Nat} {P : ka_O → ks_St → Prop} {x1 : Int32} {x2 : Int32} {x6 : Int32} {s1 : Int32} {s2 : Int32} {s3 : Int32}  (k2 : (s3 = 0) → ks_W L xs mX5_op rm_X5_op 183 [(0, .ref 17), (1, .int x1), (2, .int x2), (6, .int x6)] [.int s2, .int s1, .ref 17] σ mc ms P) (k3 : (¬ (s3 = 0)) → ks_W L xs mX5_op rm_X5_op 184 [(0, .ref 17), (1, .int x1), (2, .int x2), (6, .int x6)] [.int 1, .int s2, .int s1, .ref 17] σ mc ms P) : ks_W L xs mX5_op rm_X5_op 176 [(0, .ref 17), (1, .int x1), (2, .int x2), (6, .int x6)] [.int s3, .int s2, .int s1, .ref 17] σ mc ms P := by
  refine ka_if_eq (tgt := 183) d_X5_op_176 (by decide) rfl (fun c1 => ?_) (fun c1 => ?_)
  · exact (k2 c1)
  · refine ka_iconst (v := 1) d_X5_op_179 rfl (by decide) ?_
    refine ka_goto (q := 184) d_X5_op_180 (by decide) ?_
    exact (k3 c1)
theorem sg_X5_op_183 {L : Nat} {xs : Nat → Int32} {σ : ks_St} {mc ms : Nat} {P : ka_O → ks_St → Prop} {x1 : Int32} {x2 : Int32} {x6 : Int32} {s1 : Int32} {s2 : Int32}  (k1 : ks_W L xs mX5_op rm_X5_op 184 [(0, .ref 17), (1, .int x1), (2, .int x2), (6, .int x6)] [.int 0, .int s2, .int s1, .ref 17] σ mc ms P) : ks_W L xs mX5_op rm_X5_op 183 [(0, .ref 17), (1, .int x1), (2, .int x2), (6, .int x6)] [.int s2, .int s1, .ref 17] σ mc ms P := by
  refine ka_iconst (v := 0) d_X5_op_183 rfl (by decide) ?_
  exact k1
theorem sg_X5_op_184 {L : Nat} {xs : Nat → Int32} {σ : ks_St} {mc ms : Nat} {P : ka_O → ks_St → Prop} {x1 : Int32} {x2 : Int32} {x6 : Int32} {s1 : Int32} {s2 : Int32} {s3 : Int32}  (k2 : (¬ (si_ σ 16) = 600) → ks_W L xs mX5_op rm_X5_op 199 [(0, .ref 17), (1, .int x1), (2, .int x2), (6, .int x6)] [.int 0, .int s3, .int s2, .int s1, .ref 17] σ mc ms P) (k3 : ((si_ σ 16) = 600) → ks_W L xs mX5_op rm_X5_op 199 [(0, .ref 17), (1, .int x1), (2, .int x2), (6, .int x6)] [.int 1, .int s3, .int s2, .int s1, .ref 17] σ mc ms P) : ks_W L xs mX5_op rm_X5_op 184 [(0, .ref 17), (1, .int x1), (2, .int x2), (6, .int x6)] [.int s3, .int s2, .int s1, .ref 17] σ mc ms P := by
  refine ka_aload_n d_X5_op_184 rfl rfl 0 rfl ?_
  refine gf_X5_2 d_X5_op_185 rfl fl_X5_53 ?_
  refine ka_sipush (v := 600) d_X5_op_188 rfl (by decide) ?_
  refine ka_icmp_ne (tgt := 198) d_X5_op_191 (by decide) rfl (fun c1 => ?_) (fun c1 => ?_)
  · refine ka_iconst (v := 0) d_X5_op_198 rfl (by decide) ?_
    exact (k2 c1)
  · refine ka_iconst (v := 1) d_X5_op_194 rfl (by decide) ?_
    refine ka_goto (q := 199) d_X5_op_195 (by decide) ?_
    exact (k3 c1)
theorem cs_X5_op_199 {L : Nat} {xs : Nat → Int32} {σ : ks_St} {mc ms : Nat} {P : ka_O → ks_St → Prop} {f : Int32 → ks_St → Prop} {x1 : Int32} {x2 : Int32} {x6 : Int32} {s1 : Int32} {s2 : Int32} {s3 : Int32} {s4 : Int32} (hK : ks_M L xs mX5_throwing rm_X5_throwing [.ref 17, .int s1, .int s2, .int s3, .int s4] σ (pi_ f)) (kr : ∀ r σ', f r σ' → ks_W L xs mX5_op rm_X5_op 202 [(0, .ref 17), (1, .int x1), (2, .int x2), (6, .int x6)] [.int r] σ' mc ms P) : ks_W L xs mX5_op rm_X5_op 199 [(0, .ref 17), (1, .int x1), (2, .int x2), (6, .int x6)] [.int s4, .int s3, .int s2, .int s1, .ref 17] σ mc ms P := by
  refine ks_callV (q := 202) (o := 17) (ci := 5) (As := [.int s1, .int s2, .int s3, .int s4]) (st := []) d_X5_op_199 rfl rfl (by decide) rfl rfl lk_X5_56 ⟨by decide, by decide⟩ (Nat.le_of_ble_eq_true rfl) ⟨Nat.le_refl _, Nat.le_refl _⟩ hK (fun v σ' hq => ?_) (fun E σ' hq => ?_)
  · obtain ⟨r, e, hf⟩ := hq; cases e; exact kr r σ' hf
  · obtain ⟨r, e, hf⟩ := hq; cases e
theorem sg_X5_op_202 {L : Nat} {xs : Nat → Int32} {σ : ks_St} {mc ms : Nat} {P : ka_O → ks_St → Prop} {x1 : Int32} {x2 : Int32} {x6 : Int32} {s0 : Int32}  (v2 : (s0 = 0) → vp_in x2 600) (k4 : (s0 = 0) → (3 ≤ x1) → ks_W L xs mX5_op rm_X5_op 241 [(0, .ref 17), (1, .int x1), (2, .int x2), (6, .int x6), (9, .int (sf_ σ 18 x2.toNatClampNeg))] [] (uf_ (uf_ σ 20 (upd (sf_ σ 20) (0 : Int32).toNatClampNeg 0)) 20 (upd (sf_ (uf_ σ 20 (upd (sf_ σ 20) (0 : Int32).toNatClampNeg 0)) 20) (1 : Int32).toNatClampNeg 0)) mc ms P) (k5 : (s0 = 0) → (¬ (3 ≤ x1)) → ks_W L xs mX5_op rm_X5_op 238 [(0, .ref 17), (1, .int x1), (2, .int x2), (6, .int x6), (9, .int (sf_ σ 18 x2.toNatClampNeg))] [.int (sf_ σ 18 x2.toNatClampNeg), .int x1, .ref 17] (uf_ (uf_ σ 20 (upd (sf_ σ 20) (0 : Int32).toNatClampNeg 0)) 20 (upd (sf_ (uf_ σ 20 (upd (sf_ σ 20) (0 : Int32).toNatClampNeg 0)) 20) (1 : Int32).toNatClampNeg 0)) mc ms P) (r6 : (¬ (s0 = 0)) → P (.inl (some (.int 0))) σ) : ks_W L xs mX5_op rm_X5_op 202 [(0, .ref 17), (1, .int x1), (2, .int x2), (6, .int x6)] [.int s0] σ mc ms P := by
  refine ka_if_eq (tgt := 207) d_X5_op_202 (by decide) rfl (fun c1 => ?_) (fun c1 => ?_)
  · refine ka_aload_n d_X5_op_207 rfl rfl 0 rfl ?_
    refine gf_X5_3 d_X5_op_208 rfl fl_X5_7 ?_
    refine ka_iload_n d_X5_op_211 rfl rfl 2 rfl ?_
    refine ks_iald row_18 d_X5_op_212 rfl (v2 c1) ?_
    refine ka_istore (ls' := [(9, .int (sf_ σ 18 x2.toNatClampNeg)), (0, .ref 17), (1, .int x1), (2, .int x2), (6, .int x6)]) d_X5_op_213 rfl (by decide) rfl ?_
    refine ka_aload_n d_X5_op_215 rfl rfl 1 rfl ?_
    refine gf_X5_5 d_X5_op_216 rfl fl_X5_18 ?_
    refine ka_iconst (v := 0) d_X5_op_219 rfl (by decide) ?_
    refine ka_iconst (v := 0) d_X5_op_220 rfl (by decide) ?_
    refine ks_iast row_20 d_X5_op_221 rfl (by unfold vp_in; decide) ?_
    refine ka_aload_n d_X5_op_222 rfl rfl 1 rfl ?_
    refine gf_X5_5 d_X5_op_223 rfl fl_X5_18 ?_
    refine ka_iconst (v := 1) d_X5_op_226 rfl (by decide) ?_
    refine ka_iconst (v := 0) d_X5_op_227 rfl (by decide) ?_
    refine ks_iast row_20 d_X5_op_228 rfl (by unfold vp_in; decide) ?_
    refine ka_iload_n d_X5_op_229 rfl rfl 2 rfl ?_
    refine ka_iconst (v := 3) d_X5_op_230 rfl (by decide) ?_
    refine ka_icmp_ge (tgt := 241) d_X5_op_231 (by decide) rfl (fun c3 => ?_) (fun c3 => ?_)
    · refine ka_sub [1, 2, 3, 4, 0] rfl ?_
      exact (k4 c1 c3)
    · refine ka_aload_n d_X5_op_234 rfl rfl 1 rfl ?_
      refine ka_iload_n d_X5_op_235 rfl rfl 2 rfl ?_
      refine ka_iload d_X5_op_236 rfl 0 rfl ?_
      refine ka_sub [1, 2, 3, 4, 0] rfl ?_
      exact (k5 c1 c3)
  · refine ka_iconst (v := 0) d_X5_op_205 rfl (by decide) ?_
    exact ks_iret (ty := .int) d_X5_op_206 rfl rfl (r6 c1)
theorem cs_X5_op_238 {L : Nat} {xs : Nat → Int32} {σ : ks_St} {mc ms : Nat} {P : ka_O → ks_St → Prop} {f : ks_St → Prop} {x1 : Int32} {x2 : Int32} {x6 : Int32} {x9 : Int32} {s1 : Int32} {s2 : Int32} (hK : ks_M L xs mX5_sums rm_X5_sums [.ref 17, .int s1, .int s2] σ (pv_ f)) (kr : ∀ σ', f σ' → ks_W L xs mX5_op rm_X5_op 241 [(0, .ref 17), (1, .int x1), (2, .int x2), (6, .int x6), (9, .int x9)] [] σ' mc ms P) : ks_W L xs mX5_op rm_X5_op 238 [(0, .ref 17), (1, .int x1), (2, .int x2), (6, .int x6), (9, .int x9)] [.int s2, .int s1, .ref 17] σ mc ms P := by
  refine ks_callV (q := 241) (o := 17) (ci := 5) (As := [.int s1, .int s2]) (st := []) d_X5_op_238 rfl rfl (by decide) rfl rfl lk_X5_114 ⟨by decide, by decide⟩ (Nat.le_of_ble_eq_true rfl) ⟨Nat.le_refl _, Nat.le_refl _⟩ hK (fun v σ' hq => ?_) (fun E σ' hq => ?_)
  · obtain ⟨e, hf⟩ := hq; cases e; exact kr σ' hf
  · obtain ⟨e, hf⟩ := hq; cases e
theorem sg_X5_op_241 {L : Nat} {xs : Nat → Int32} {σ : ks_St} {mc ms : Nat} {P : ka_O → ks_St → Prop} {x1 : Int32} {x2 : Int32} {x6 : Int32} {x9 : Int32}  (k2 : (x1 = 2) → ks_W L xs mX5_op rm_X5_op 251 [(0, .ref 17), (1, .int x1), (2, .int x2), (6, .int x6), (9, .int x9)] [] σ mc ms P) (k5 : (¬ (x1 = 2)) → (¬ x1 = 3) → (x1 ≤ 3) → ks_W L xs mX5_op rm_X5_op 321 [(0, .ref 17), (1, .int x1), (9, .int x9)] [] σ mc ms P) (k7 : (¬ (x1 = 2)) → (¬ x1 = 3) → (¬ (x1 ≤ 3)) → (8 ≤ x1) → ks_W L xs mX5_op rm_X5_op 321 [(0, .ref 17), (1, .int x1), (9, .int x9)] [] σ mc ms P) (k8 : (¬ (x1 = 2)) → (¬ x1 = 3) → (¬ (x1 ≤ 3)) → (¬ (8 ≤ x1)) → ks_W L xs mX5_op rm_X5_op 315 [(0, .ref 17), (1, .int x1), (9, .int x9)] [.int x9, .int x1, .ref 17] σ mc ms P) (k9 : (¬ (x1 = 2)) → (x1 = 3) → ks_W L xs mX5_op rm_X5_op 251 [(0, .ref 17), (1, .int x1), (2, .int x2), (6, .int x6), (9, .int x9)] [] σ mc ms P) : ks_W L xs mX5_op rm_X5_op 241 [(0, .ref 17), (1, .int x1), (2, .int x2), (6, .int x6), (9, .int x9)] [] σ mc ms P := by
  refine ka_iload_n d_X5_op_241 rfl rfl 1 rfl ?_
  refine ka_iconst (v := 2) d_X5_op_242 rfl (by decide) ?_
  refine ka_icmp_eq (tgt := 251) d_X5_op_243 (by decide) rfl (fun c1 => ?_) (fun c1 => ?_)
  · exact (k2 c1)
  · refine ka_iload_n d_X5_op_246 rfl rfl 1 rfl ?_
    refine ka_iconst (v := 3) d_X5_op_247 rfl (by decide) ?_
    refine ka_icmp_ne (tgt := 300) d_X5_op_248 (by decide) rfl (fun c3 => ?_) (fun c3 => ?_)
    · refine ka_iload_n d_X5_op_300 rfl rfl 1 rfl ?_
      refine ka_iconst (v := 3) d_X5_op_301 rfl (by decide) ?_
      refine ka_icmp_le (tgt := 321) d_X5_op_302 (by decide) rfl (fun c4 => ?_) (fun c4 => ?_)
      · refine ka_sub [0, 1, 4] rfl ?_
        exact (k5 c1 c3 c4)
      · refine ka_iload_n d_X5_op_305 rfl rfl 1 rfl ?_
        refine ka_bipush (v := 8) d_X5_op_306 rfl (by decide) ?_
        refine ka_icmp_ge (tgt := 321) d_X5_op_308 (by decide) rfl (fun c6 => ?_) (fun c6 => ?_)
        · refine ka_sub [0, 1, 4] rfl ?_
          exact (k7 c1 c3 c4 c6)
        · refine ka_aload_n d_X5_op_311 rfl rfl 0 rfl ?_
          refine ka_iload_n d_X5_op_312 rfl rfl 1 rfl ?_
          refine ka_iload d_X5_op_313 rfl 4 rfl ?_
          refine ka_sub [0, 1, 4] rfl ?_
          exact (k8 c1 c3 c4 c6)
    · exact (k9 c1 c3)
theorem sg_X5_op_251 {L : Nat} {xs : Nat → Int32} {σ : ks_St} {mc ms : Nat} {P : ka_O → ks_St → Prop} {x1 : Int32} {x2 : Int32} {x6 : Int32} {x9 : Int32}  (k1 : ks_W L xs mX5_op rm_X5_op 255 [(0, .ref 17), (1, .int x1), (9, .int x9)] [.int x6, .int x2, .ref 17] σ mc ms P) : ks_W L xs mX5_op rm_X5_op 251 [(0, .ref 17), (1, .int x1), (2, .int x2), (6, .int x6), (9, .int x9)] [] σ mc ms P := by
  refine ka_aload_n d_X5_op_251 rfl rfl 0 rfl ?_
  refine ka_iload_n d_X5_op_252 rfl rfl 2 rfl ?_
  refine ka_iload d_X5_op_253 rfl 3 rfl ?_
  refine ka_sub [0, 1, 4] rfl ?_
  exact k1
theorem cs_X5_op_255 {L : Nat} {xs : Nat → Int32} {σ : ks_St} {mc ms : Nat} {P : ka_O → ks_St → Prop} {f : ks_St → Prop} {x1 : Int32} {x9 : Int32} {s1 : Int32} {s2 : Int32} (hK : ks_M L xs mX5_load rm_X5_load [.ref 17, .int s1, .int s2] σ (pv_ f)) (kr : ∀ σ', f σ' → ks_W L xs mX5_op rm_X5_op 258 [(0, .ref 17), (1, .int x1), (9, .int x9)] [] σ' mc ms P) : ks_W L xs mX5_op rm_X5_op 255 [(0, .ref 17), (1, .int x1), (9, .int x9)] [.int s2, .int s1, .ref 17] σ mc ms P := by
  refine ks_callV (q := 258) (o := 17) (ci := 5) (As := [.int s1, .int s2]) (st := []) d_X5_op_255 rfl rfl (by decide) rfl rfl lk_X5_110 ⟨by decide, by decide⟩ (Nat.le_of_ble_eq_true rfl) ⟨Nat.le_refl _, Nat.le_refl _⟩ hK (fun v σ' hq => ?_) (fun E σ' hq => ?_)
  · obtain ⟨e, hf⟩ := hq; cases e; exact kr σ' hf
  · obtain ⟨e, hf⟩ := hq; cases e
theorem sg_X5_op_258 {L : Nat} {xs : Nat → Int32} {σ : ks_St} {mc ms : Nat} {P : ka_O → ks_St → Prop} {x1 : Int32} {x9 : Int32}  (k1 : ks_W L xs mX5_op rm_X5_op 261 [(0, .ref 17), (1, .int x1), (9, .int x9)] [.int x9, .ref 17] σ mc ms P) : ks_W L xs mX5_op rm_X5_op 258 [(0, .ref 17), (1, .int x1), (9, .int x9)] [] σ mc ms P := by
  refine ka_aload_n d_X5_op_258 rfl rfl 0 rfl ?_
  refine ka_iload d_X5_op_259 rfl 2 rfl ?_
  exact k1
theorem cs_X5_op_261 {L : Nat} {xs : Nat → Int32} {σ : ks_St} {mc ms : Nat} {P : ka_O → ks_St → Prop} {f : ks_St → Prop} {x1 : Int32} {x9 : Int32} {s1 : Int32} (hK : ks_M L xs mX5_multiply rm_X5_multiply [.ref 17, .int s1] σ (pv_ f)) (kr : ∀ σ', f σ' → ks_W L xs mX5_op rm_X5_op 264 [(0, .ref 17), (1, .int x1), (9, .int x9)] [] σ' mc ms P) : ks_W L xs mX5_op rm_X5_op 261 [(0, .ref 17), (1, .int x1), (9, .int x9)] [.int s1, .ref 17] σ mc ms P := by
  refine ks_callV (q := 264) (o := 17) (ci := 5) (As := [.int s1]) (st := []) d_X5_op_261 rfl rfl (by decide) rfl rfl lk_X5_88 ⟨by decide, by decide⟩ (Nat.le_of_ble_eq_true rfl) ⟨Nat.le_refl _, Nat.le_refl _⟩ hK (fun v σ' hq => ?_) (fun E σ' hq => ?_)
  · obtain ⟨e, hf⟩ := hq; cases e; exact kr σ' hf
  · obtain ⟨e, hf⟩ := hq; cases e
theorem sg_X5_op_264 {L : Nat} {xs : Nat → Int32} {σ : ks_St} {mc ms : Nat} {P : ka_O → ks_St → Prop} {x1 : Int32} {x9 : Int32}  (k2 : (¬ x1 = 2) → ks_W L xs mX5_op rm_X5_op 356 [(0, .ref 17), (1, .int x1), (9, .int x9)] [] σ mc ms P) (k3 : (x1 = 2) → ks_W L xs mX5_op rm_X5_op 285 [(0, .ref 17), (1, .int x1), (9, .int x9)] [.int (2 * x9), .int x9, .ref 23, .ref 17, .int 0, .ref 20] σ mc ms P) : ks_W L xs mX5_op rm_X5_op 264 [(0, .ref 17), (1, .int x1), (9, .int x9)] [] σ mc ms P := by
  refine ka_iload_n d_X5_op_264 rfl rfl 1 rfl ?_
  refine ka_iconst (v := 2) d_X5_op_265 rfl (by decide) ?_
  refine ka_icmp_ne (tgt := 356) d_X5_op_266 (by decide) rfl (fun c1 => ?_) (fun c1 => ?_)
  · exact (k2 c1)
  · refine ka_aload_n d_X5_op_269 rfl rfl 0 rfl ?_
    refine gf_X5_5 d_X5_op_270 rfl fl_X5_18 ?_
    refine ka_iconst (v := 0) d_X5_op_273 rfl (by decide) ?_
    refine ka_aload_n d_X5_op_274 rfl rfl 0 rfl ?_
    refine ka_aload_n d_X5_op_275 rfl rfl 0 rfl ?_
    refine gf_X5_9 d_X5_op_276 rfl fl_X5_27 ?_
    refine ka_iload d_X5_op_279 rfl 2 rfl ?_
    refine ka_iconst (v := 2) d_X5_op_281 rfl (by decide) ?_
    refine ka_iload d_X5_op_282 rfl 2 rfl ?_
    refine ka_imul d_X5_op_284 rfl ?_
    exact (k3 c1)
theorem cs_X5_op_285 {L : Nat} {xs : Nat → Int32} {σ : ks_St} {mc ms : Nat} {P : ka_O → ks_St → Prop} {f : Int32 → ks_St → Prop} {x1 : Int32} {x9 : Int32} {s1 : Int32} {s4 : Int32} {s5 : Int32} (hK : ks_M L xs mX5_isNought rm_X5_isNought [.ref 17, .ref 23, .int s4, .int s5] σ (pi_ f)) (kr : ∀ r σ', f r σ' → ks_W L xs mX5_op rm_X5_op 288 [(0, .ref 17), (1, .int x1), (9, .int x9)] [.int r, .int s1, .ref 20] σ' mc ms P) : ks_W L xs mX5_op rm_X5_op 285 [(0, .ref 17), (1, .int x1), (9, .int x9)] [.int s5, .int s4, .ref 23, .ref 17, .int s1, .ref 20] σ mc ms P := by
  refine ks_callV (q := 288) (o := 17) (ci := 5) (As := [.ref 23, .int s4, .int s5]) (st := [.int s1, .ref 20]) d_X5_op_285 rfl rfl (by decide) rfl rfl lk_X5_76 ⟨by decide, by decide⟩ (Nat.le_of_ble_eq_true rfl) ⟨Nat.le_refl _, Nat.le_refl _⟩ hK (fun v σ' hq => ?_) (fun E σ' hq => ?_)
  · obtain ⟨r, e, hf⟩ := hq; cases e; exact kr r σ' hf
  · obtain ⟨r, e, hf⟩ := hq; cases e
theorem sg_X5_op_288 {L : Nat} {xs : Nat → Int32} {σ : ks_St} {mc ms : Nat} {P : ka_O → ks_St → Prop} {x1 : Int32} {x9 : Int32} {s1 : Int32} {s2 : Int32}  (k2 : (s2 = 0) → ks_W L xs mX5_op rm_X5_op 296 [(0, .ref 17), (1, .int x1), (9, .int x9)] [.int 1, .int s1, .ref 20] σ mc ms P) (k3 : (¬ (s2 = 0)) → ks_W L xs mX5_op rm_X5_op 296 [(0, .ref 17), (1, .int x1), (9, .int x9)] [.int 0, .int s1, .ref 20] σ mc ms P) : ks_W L xs mX5_op rm_X5_op 288 [(0, .ref 17), (1, .int x1), (9, .int x9)] [.int s2, .int s1, .ref 20] σ mc ms P := by
  refine ka_if_eq (tgt := 295) d_X5_op_288 (by decide) rfl (fun c1 => ?_) (fun c1 => ?_)
  · refine ka_iconst (v := 1) d_X5_op_295 rfl (by decide) ?_
    exact (k2 c1)
  · refine ka_iconst (v := 0) d_X5_op_291 rfl (by decide) ?_
    refine ka_goto (q := 296) d_X5_op_292 (by decide) ?_
    exact (k3 c1)
theorem sg_X5_op_296 {L : Nat} {xs : Nat → Int32} {σ : ks_St} {mc ms : Nat} {P : ka_O → ks_St → Prop} {x1 : Int32} {x9 : Int32} {s1 : Int32} {s2 : Int32}  (v1 : vp_in s1 4) (k2 : ks_W L xs mX5_op rm_X5_op 356 [(0, .ref 17), (1, .int x1), (9, .int x9)] [] (uf_ σ 20 (upd (sf_ σ 20) s1.toNatClampNeg s2)) mc ms P) : ks_W L xs mX5_op rm_X5_op 296 [(0, .ref 17), (1, .int x1), (9, .int x9)] [.int s2, .int s1, .ref 20] σ mc ms P := by
  refine ks_iast row_20 d_X5_op_296 rfl v1 ?_
  refine ka_goto (q := 356) d_X5_op_297 (by decide) ?_
  exact k2
theorem cs_X5_op_315 {L : Nat} {xs : Nat → Int32} {σ : ks_St} {mc ms : Nat} {P : ka_O → ks_St → Prop} {f : ks_St → Prop} {x1 : Int32} {x9 : Int32} {s1 : Int32} {s2 : Int32} (hK : ks_M L xs mX5_quotients rm_X5_quotients [.ref 17, .int s1, .int s2] σ (pv_ f)) (kr : ∀ σ', f σ' → ks_W L xs mX5_op rm_X5_op 318 [(0, .ref 17), (1, .int x1), (9, .int x9)] [] σ' mc ms P) : ks_W L xs mX5_op rm_X5_op 315 [(0, .ref 17), (1, .int x1), (9, .int x9)] [.int s2, .int s1, .ref 17] σ mc ms P := by
  refine ks_callV (q := 318) (o := 17) (ci := 5) (As := [.int s1, .int s2]) (st := []) d_X5_op_315 rfl rfl (by decide) rfl rfl lk_X5_117 ⟨by decide, by decide⟩ (Nat.le_of_ble_eq_true rfl) ⟨Nat.le_refl _, Nat.le_refl _⟩ hK (fun v σ' hq => ?_) (fun E σ' hq => ?_)
  · obtain ⟨e, hf⟩ := hq; cases e; exact kr σ' hf
  · obtain ⟨e, hf⟩ := hq; cases e
theorem sg_X5_op_318 {L : Nat} {xs : Nat → Int32} {σ : ks_St} {mc ms : Nat} {P : ka_O → ks_St → Prop} {x1 : Int32} {x9 : Int32}  (k1 : ks_W L xs mX5_op rm_X5_op 356 [(0, .ref 17), (1, .int x1), (9, .int x9)] [] σ mc ms P) : ks_W L xs mX5_op rm_X5_op 318 [(0, .ref 17), (1, .int x1), (9, .int x9)] [] σ mc ms P := by
  refine ka_goto (q := 356) d_X5_op_318 (by decide) ?_
  exact k1
theorem sg_X5_op_321 {L : Nat} {xs : Nat → Int32} {σ : ks_St} {mc ms : Nat} {P : ka_O → ks_St → Prop} {x1 : Int32} {x9 : Int32}  (k2 : (x1 ≤ 7) → ks_W L xs mX5_op rm_X5_op 343 [(0, .ref 17), (1, .int x1), (9, .int x9)] [] σ mc ms P) (k4 : (¬ (x1 ≤ 7)) → (11 ≤ x1) → ks_W L xs mX5_op rm_X5_op 343 [(0, .ref 17), (1, .int x1), (9, .int x9)] [] σ mc ms P) (k5 : (¬ (x1 ≤ 7)) → (¬ (11 ≤ x1)) → ks_W L xs mX5_op rm_X5_op 337 [(0, .ref 17), (1, .int x1), (9, .int x9)] [.int x9, .int x1, .ref 17] σ mc ms P) : ks_W L xs mX5_op rm_X5_op 321 [(0, .ref 17), (1, .int x1), (9, .int x9)] [] σ mc ms P := by
  refine ka_iload_n d_X5_op_321 rfl rfl 1 rfl ?_
  refine ka_bipush (v := 7) d_X5_op_322 rfl (by decide) ?_
  refine ka_icmp_le (tgt := 343) d_X5_op_324 (by decide) rfl (fun c1 => ?_) (fun c1 => ?_)
  · exact (k2 c1)
  · refine ka_iload_n d_X5_op_327 rfl rfl 1 rfl ?_
    refine ka_bipush (v := 11) d_X5_op_328 rfl (by decide) ?_
    refine ka_icmp_ge (tgt := 343) d_X5_op_330 (by decide) rfl (fun c3 => ?_) (fun c3 => ?_)
    · exact (k4 c1 c3)
    · refine ka_aload_n d_X5_op_333 rfl rfl 0 rfl ?_
      refine ka_iload_n d_X5_op_334 rfl rfl 1 rfl ?_
      refine ka_iload d_X5_op_335 rfl 2 rfl ?_
      exact (k5 c1 c3)
theorem cs_X5_op_337 {L : Nat} {xs : Nat → Int32} {σ : ks_St} {mc ms : Nat} {P : ka_O → ks_St → Prop} {f : ks_St → Prop} {x1 : Int32} {x9 : Int32} {s1 : Int32} {s2 : Int32} (hK : ks_M L xs mX5_moves rm_X5_moves [.ref 17, .int s1, .int s2] σ (pv_ f)) (kr : ∀ σ', f σ' → ks_W L xs mX5_op rm_X5_op 340 [(0, .ref 17), (1, .int x1), (9, .int x9)] [] σ' mc ms P) : ks_W L xs mX5_op rm_X5_op 337 [(0, .ref 17), (1, .int x1), (9, .int x9)] [.int s2, .int s1, .ref 17] σ mc ms P := by
  refine ks_callV (q := 340) (o := 17) (ci := 5) (As := [.int s1, .int s2]) (st := []) d_X5_op_337 rfl rfl (by decide) rfl rfl lk_X5_120 ⟨by decide, by decide⟩ (Nat.le_of_ble_eq_true rfl) ⟨Nat.le_refl _, Nat.le_refl _⟩ hK (fun v σ' hq => ?_) (fun E σ' hq => ?_)
  · obtain ⟨e, hf⟩ := hq; cases e; exact kr σ' hf
  · obtain ⟨e, hf⟩ := hq; cases e
theorem sg_X5_op_340 {L : Nat} {xs : Nat → Int32} {σ : ks_St} {mc ms : Nat} {P : ka_O → ks_St → Prop} {x1 : Int32} {x9 : Int32}  (k1 : ks_W L xs mX5_op rm_X5_op 356 [(0, .ref 17), (1, .int x1), (9, .int x9)] [] σ mc ms P) : ks_W L xs mX5_op rm_X5_op 340 [(0, .ref 17), (1, .int x1), (9, .int x9)] [] σ mc ms P := by
  refine ka_goto (q := 356) d_X5_op_340 (by decide) ?_
  exact k1
theorem sg_X5_op_343 {L : Nat} {xs : Nat → Int32} {σ : ks_St} {mc ms : Nat} {P : ka_O → ks_St → Prop} {x1 : Int32} {x9 : Int32}  (k2 : (x1 ≤ 10) → ks_W L xs mX5_op rm_X5_op 356 [(0, .ref 17), (1, .int x1), (9, .int x9)] [] σ mc ms P) (k3 : (¬ (x1 ≤ 10)) → ks_W L xs mX5_op rm_X5_op 353 [(0, .ref 17), (1, .int x1), (9, .int x9)] [.int x9, .int x1, .ref 17] σ mc ms P) : ks_W L xs mX5_op rm_X5_op 343 [(0, .ref 17), (1, .int x1), (9, .int x9)] [] σ mc ms P := by
  refine ka_iload_n d_X5_op_343 rfl rfl 1 rfl ?_
  refine ka_bipush (v := 10) d_X5_op_344 rfl (by decide) ?_
  refine ka_icmp_le (tgt := 356) d_X5_op_346 (by decide) rfl (fun c1 => ?_) (fun c1 => ?_)
  · exact (k2 c1)
  · refine ka_aload_n d_X5_op_349 rfl rfl 0 rfl ?_
    refine ka_iload_n d_X5_op_350 rfl rfl 1 rfl ?_
    refine ka_iload d_X5_op_351 rfl 2 rfl ?_
    exact (k3 c1)
theorem cs_X5_op_353 {L : Nat} {xs : Nat → Int32} {σ : ks_St} {mc ms : Nat} {P : ka_O → ks_St → Prop} {f : ks_St → Prop} {x1 : Int32} {x9 : Int32} {s1 : Int32} {s2 : Int32} (hK : ks_M L xs mX5_others rm_X5_others [.ref 17, .int s1, .int s2] σ (pv_ f)) (kr : ∀ σ', f σ' → ks_W L xs mX5_op rm_X5_op 356 [(0, .ref 17), (1, .int x1), (9, .int x9)] [] σ' mc ms P) : ks_W L xs mX5_op rm_X5_op 353 [(0, .ref 17), (1, .int x1), (9, .int x9)] [.int s2, .int s1, .ref 17] σ mc ms P := by
  refine ks_callV (q := 356) (o := 17) (ci := 5) (As := [.int s1, .int s2]) (st := []) d_X5_op_353 rfl rfl (by decide) rfl rfl lk_X5_123 ⟨by decide, by decide⟩ (Nat.le_of_ble_eq_true rfl) ⟨Nat.le_refl _, Nat.le_refl _⟩ hK (fun v σ' hq => ?_) (fun E σ' hq => ?_)
  · obtain ⟨e, hf⟩ := hq; cases e; exact kr σ' hf
  · obtain ⟨e, hf⟩ := hq; cases e
theorem sg_X5_op_356 {L : Nat} {xs : Nat → Int32} {σ : ks_St} {mc ms : Nat} {P : ka_O → ks_St → Prop} {x1 : Int32} {x9 : Int32}  (k2 : (¬ x1 = 3) → ks_W L xs mX5_op rm_X5_op 367 [(0, .ref 17), (9, .int x9)] [.int 0] σ mc ms P) (k3 : (x1 = 3) → ks_W L xs mX5_op rm_X5_op 367 [(0, .ref 17), (9, .int x9)] [.int x9] σ mc ms P) : ks_W L xs mX5_op rm_X5_op 356 [(0, .ref 17), (1, .int x1), (9, .int x9)] [] σ mc ms P := by
  refine ka_iload_n d_X5_op_356 rfl rfl 1 rfl ?_
  refine ka_iconst (v := 3) d_X5_op_357 rfl (by decide) ?_
  refine ka_icmp_ne (tgt := 366) d_X5_op_358 (by decide) rfl (fun c1 => ?_) (fun c1 => ?_)
  · refine ka_iconst (v := 0) d_X5_op_366 rfl (by decide) ?_
    refine ka_sub [0, 2] rfl ?_
    exact (k2 c1)
  · refine ka_iload d_X5_op_361 rfl 2 rfl ?_
    refine ka_goto (q := 367) d_X5_op_363 (by decide) ?_
    refine ka_sub [0, 2] rfl ?_
    exact (k3 c1)
theorem sg_X5_op_367 {L : Nat} {xs : Nat → Int32} {σ : ks_St} {mc ms : Nat} {P : ka_O → ks_St → Prop} {x9 : Int32} {s0 : Int32}  (k1 : ks_W L xs mX5_op rm_X5_op 386 [(0, .ref 17), (9, .int x9), (10, .int s0)] [.int (s0 + x9), .int s0, .ref 23, .ref 17, .int 2, .ref 20] σ mc ms P) : ks_W L xs mX5_op rm_X5_op 367 [(0, .ref 17), (9, .int x9)] [.int s0] σ mc ms P := by
  refine ka_istore (ls' := [(10, .int s0), (0, .ref 17), (9, .int x9)]) d_X5_op_367 rfl (by decide) rfl ?_
  refine ka_aload_n d_X5_op_369 rfl rfl 1 rfl ?_
  refine gf_X5_5 d_X5_op_370 rfl fl_X5_18 ?_
  refine ka_iconst (v := 2) d_X5_op_373 rfl (by decide) ?_
  refine ka_aload_n d_X5_op_374 rfl rfl 1 rfl ?_
  refine ka_aload_n d_X5_op_375 rfl rfl 1 rfl ?_
  refine gf_X5_9 d_X5_op_376 rfl fl_X5_27 ?_
  refine ka_iload d_X5_op_379 rfl 0 rfl ?_
  refine ka_iload d_X5_op_381 rfl 0 rfl ?_
  refine ka_iload d_X5_op_383 rfl 2 rfl ?_
  refine ka_iadd d_X5_op_385 rfl ?_
  refine ka_sub [1, 2, 0] rfl ?_
  exact k1
theorem cs_X5_op_386 {L : Nat} {xs : Nat → Int32} {σ : ks_St} {mc ms : Nat} {P : ka_O → ks_St → Prop} {f : Int32 → ks_St → Prop} {x9 : Int32} {x10 : Int32} {s1 : Int32} {s4 : Int32} {s5 : Int32} (hK : ks_M L xs mX5_isNought rm_X5_isNought [.ref 17, .ref 23, .int s4, .int s5] σ (pi_ f)) (kr : ∀ r σ', f r σ' → ks_W L xs mX5_op rm_X5_op 389 [(0, .ref 17), (9, .int x9), (10, .int x10)] [.int r, .int s1, .ref 20] σ' mc ms P) : ks_W L xs mX5_op rm_X5_op 386 [(0, .ref 17), (9, .int x9), (10, .int x10)] [.int s5, .int s4, .ref 23, .ref 17, .int s1, .ref 20] σ mc ms P := by
  refine ks_callV (q := 389) (o := 17) (ci := 5) (As := [.ref 23, .int s4, .int s5]) (st := [.int s1, .ref 20]) d_X5_op_386 rfl rfl (by decide) rfl rfl lk_X5_76 ⟨by decide, by decide⟩ (Nat.le_of_ble_eq_true rfl) ⟨Nat.le_refl _, Nat.le_refl _⟩ hK (fun v σ' hq => ?_) (fun E σ' hq => ?_)
  · obtain ⟨r, e, hf⟩ := hq; cases e; exact kr r σ' hf
  · obtain ⟨r, e, hf⟩ := hq; cases e
theorem sg_X5_op_389 {L : Nat} {xs : Nat → Int32} {σ : ks_St} {mc ms : Nat} {P : ka_O → ks_St → Prop} {x9 : Int32} {x10 : Int32} {s1 : Int32} {s2 : Int32}  (k2 : (s2 = 0) → ks_W L xs mX5_op rm_X5_op 397 [(0, .ref 17), (9, .int x9), (10, .int x10)] [.int 0, .int s1, .ref 20] σ mc ms P) (k3 : (¬ (s2 = 0)) → ks_W L xs mX5_op rm_X5_op 397 [(0, .ref 17), (9, .int x9), (10, .int x10)] [.int 1, .int s1, .ref 20] σ mc ms P) : ks_W L xs mX5_op rm_X5_op 389 [(0, .ref 17), (9, .int x9), (10, .int x10)] [.int s2, .int s1, .ref 20] σ mc ms P := by
  refine ka_if_eq (tgt := 396) d_X5_op_389 (by decide) rfl (fun c1 => ?_) (fun c1 => ?_)
  · refine ka_iconst (v := 0) d_X5_op_396 rfl (by decide) ?_
    exact (k2 c1)
  · refine ka_iconst (v := 1) d_X5_op_392 rfl (by decide) ?_
    refine ka_goto (q := 397) d_X5_op_393 (by decide) ?_
    exact (k3 c1)
theorem sg_X5_op_397 {L : Nat} {xs : Nat → Int32} {σ : ks_St} {mc ms : Nat} {P : ka_O → ks_St → Prop} {x9 : Int32} {x10 : Int32} {s1 : Int32} {s2 : Int32}  (v1 : vp_in s1 4) (v2 : vp_in ((x10 + x9) - 1) 1026) (k3 : ks_W L xs mX5_op rm_X5_op 421 [] [.int x9, .int x10, .ref 17] (uf_ (uf_ σ 20 (upd (sf_ σ 20) s1.toNatClampNeg s2)) 20 (upd (sf_ (uf_ σ 20 (upd (sf_ σ 20) s1.toNatClampNeg s2)) 20) (3 : Int32).toNatClampNeg (sf_ (uf_ σ 20 (upd (sf_ σ 20) s1.toNatClampNeg s2)) 23 ((x10 + x9) - 1).toNatClampNeg))) mc ms P) : ks_W L xs mX5_op rm_X5_op 397 [(0, .ref 17), (9, .int x9), (10, .int x10)] [.int s2, .int s1, .ref 20] σ mc ms P := by
  refine ks_iast row_20 d_X5_op_397 rfl v1 ?_
  refine ka_aload_n d_X5_op_398 rfl rfl 0 rfl ?_
  refine gf_X5_5 d_X5_op_399 rfl fl_X5_18 ?_
  refine ka_iconst (v := 3) d_X5_op_402 rfl (by decide) ?_
  refine ka_aload_n d_X5_op_403 rfl rfl 0 rfl ?_
  refine gf_X5_9 d_X5_op_404 rfl fl_X5_27 ?_
  refine ka_iload d_X5_op_407 rfl 2 rfl ?_
  refine ka_iload d_X5_op_409 rfl 1 rfl ?_
  refine ka_iadd d_X5_op_411 rfl ?_
  refine ka_iconst (v := 1) d_X5_op_412 rfl (by decide) ?_
  refine ka_isub d_X5_op_413 rfl ?_
  refine ks_iald row_23 d_X5_op_414 rfl v2 ?_
  refine ks_iast row_20 d_X5_op_415 rfl (by unfold vp_in; decide) ?_
  refine ka_aload_n d_X5_op_416 rfl rfl 0 rfl ?_
  refine ka_iload d_X5_op_417 rfl 2 rfl ?_
  refine ka_iload d_X5_op_419 rfl 1 rfl ?_
  refine ka_sub [] rfl ?_
  exact k3
theorem cs_X5_op_421 {L : Nat} {xs : Nat → Int32} {σ : ks_St} {mc ms : Nat} {P : ka_O → ks_St → Prop} {f : Int32 → ks_St → Prop} {s1 : Int32} {s2 : Int32} (hK : ks_M L xs mX5_keep rm_X5_keep [.ref 17, .int s1, .int s2] σ (pi_ f)) (kr : ∀ r σ', f r σ' → ks_W L xs mX5_op rm_X5_op 424 [] [.int r] σ' mc ms P) : ks_W L xs mX5_op rm_X5_op 421 [] [.int s2, .int s1, .ref 17] σ mc ms P := by
  refine ks_callV (q := 424) (o := 17) (ci := 5) (As := [.int s1, .int s2]) (st := []) d_X5_op_421 rfl rfl (by decide) rfl rfl lk_X5_126 ⟨by decide, by decide⟩ (Nat.le_of_ble_eq_true rfl) ⟨Nat.le_refl _, Nat.le_refl _⟩ hK (fun v σ' hq => ?_) (fun E σ' hq => ?_)
  · obtain ⟨r, e, hf⟩ := hq; cases e; exact kr r σ' hf
  · obtain ⟨r, e, hf⟩ := hq; cases e
theorem sg_X5_op_424 {L : Nat} {xs : Nat → Int32} {σ : ks_St} {mc ms : Nat} {P : ka_O → ks_St → Prop} {s0 : Int32}  (r1 : P (.inl (some (.int s0))) σ) : ks_W L xs mX5_op rm_X5_op 424 [] [.int s0] σ mc ms P := by
  exact ks_iret (ty := .int) d_X5_op_424 rfl rfl r1
theorem d_X5_flag_0 : decode cX5_flag 0 = .ok (.aload_n 0, 1) := by decide +kernel
theorem d_X5_flag_1 : decode cX5_flag 1 = .ok (.iload_n 1, 1) := by decide +kernel
theorem d_X5_flag_2 : decode cX5_flag 2 = .ok (.ifCond .lt 8, 3) := by decide +kernel
theorem d_X5_flag_5 : decode cX5_flag 5 = .ok (.iload_n 1, 1) := by decide +kernel
theorem d_X5_flag_6 : decode cX5_flag 6 = .ok (.iconst 3, 1) := by decide +kernel
theorem d_X5_flag_7 : decode cX5_flag 7 = .ok (.if_icmp .le 7, 3) := by decide +kernel
theorem d_X5_flag_10 : decode cX5_flag 10 = .ok (.iconst 1, 1) := by decide +kernel
theorem d_X5_flag_11 : decode cX5_flag 11 = .ok (.goto 4, 3) := by decide +kernel
theorem d_X5_flag_14 : decode cX5_flag 14 = .ok (.iconst 0, 1) := by decide +kernel
theorem d_X5_flag_15 : decode cX5_flag 15 = .ok (.iconst 0, 1) := by decide +kernel
theorem d_X5_flag_16 : decode cX5_flag 16 = .ok (.iconst 0, 1) := by decide +kernel
theorem d_X5_flag_17 : decode cX5_flag 17 = .ok (.iconst 0, 1) := by decide +kernel
theorem d_X5_flag_18 : decode cX5_flag 18 = .ok (.invokevirtual 56, 3) := by decide +kernel
theorem d_X5_flag_21 : decode cX5_flag 21 = .ok (.ifCond .eq 7, 3) := by decide +kernel
theorem d_X5_flag_24 : decode cX5_flag 24 = .ok (.iconst 0, 1) := by decide +kernel
theorem d_X5_flag_25 : decode cX5_flag 25 = .ok (.goto 9, 3) := by decide +kernel
theorem d_X5_flag_28 : decode cX5_flag 28 = .ok (.aload_n 0, 1) := by decide +kernel
theorem d_X5_flag_29 : decode cX5_flag 29 = .ok (.getfield 18, 3) := by decide +kernel
theorem d_X5_flag_32 : decode cX5_flag 32 = .ok (.iload_n 1, 1) := by decide +kernel
theorem d_X5_flag_33 : decode cX5_flag 33 = .ok (.iaload, 1) := by decide +kernel
theorem d_X5_flag_34 : decode cX5_flag 34 = .ok (.ireturn, 1) := by decide +kernel
theorem sg_X5_flag_0 {L : Nat} {xs : Nat → Int32} {σ : ks_St} {mc ms : Nat} {P : ka_O → ks_St → Prop} {x1 : Int32}  (k2 : (x1 < 0) → ks_W L xs mX5_flag rm_X5_flag 10 [(0, .ref 17), (1, .int x1)] [.ref 17] σ mc ms P) (k4 : (¬ (x1 < 0)) → (x1 ≤ 3) → ks_W L xs mX5_flag rm_X5_flag 15 [(0, .ref 17), (1, .int x1)] [.int 0, .ref 17] σ mc ms P) (k5 : (¬ (x1 < 0)) → (¬ (x1 ≤ 3)) → ks_W L xs mX5_flag rm_X5_flag 10 [(0, .ref 17), (1, .int x1)] [.ref 17] σ mc ms P) : ks_W L xs mX5_flag rm_X5_flag 0 [(0, .ref 17), (1, .int x1)] [] σ mc ms P := by
  refine ka_aload_n d_X5_flag_0 rfl rfl 0 rfl ?_
  refine ka_iload_n d_X5_flag_1 rfl rfl 1 rfl ?_
  refine ka_if_lt (tgt := 10) d_X5_flag_2 (by decide) rfl (fun c1 => ?_) (fun c1 => ?_)
  · exact (k2 c1)
  · refine ka_iload_n d_X5_flag_5 rfl rfl 1 rfl ?_
    refine ka_iconst (v := 3) d_X5_flag_6 rfl (by decide) ?_
    refine ka_icmp_le (tgt := 14) d_X5_flag_7 (by decide) rfl (fun c3 => ?_) (fun c3 => ?_)
    · refine ka_iconst (v := 0) d_X5_flag_14 rfl (by decide) ?_
      exact (k4 c1 c3)
    · exact (k5 c1 c3)
theorem sg_X5_flag_10 {L : Nat} {xs : Nat → Int32} {σ : ks_St} {mc ms : Nat} {P : ka_O → ks_St → Prop} {x1 : Int32}  (k1 : ks_W L xs mX5_flag rm_X5_flag 15 [(0, .ref 17), (1, .int x1)] [.int 1, .ref 17] σ mc ms P) : ks_W L xs mX5_flag rm_X5_flag 10 [(0, .ref 17), (1, .int x1)] [.ref 17] σ mc ms P := by
  refine ka_iconst (v := 1) d_X5_flag_10 rfl (by decide) ?_
  refine ka_goto (q := 15) d_X5_flag_11 (by decide) ?_
  exact k1
theorem sg_X5_flag_15 {L : Nat} {xs : Nat → Int32} {σ : ks_St} {mc ms : Nat} {P : ka_O → ks_St → Prop} {x1 : Int32} {s1 : Int32}  (k1 : ks_W L xs mX5_flag rm_X5_flag 18 [(0, .ref 17), (1, .int x1)] [.int 0, .int 0, .int 0, .int s1, .ref 17] σ mc ms P) : ks_W L xs mX5_flag rm_X5_flag 15 [(0, .ref 17), (1, .int x1)] [.int s1, .ref 17] σ mc ms P := by
  refine ka_iconst (v := 0) d_X5_flag_15 rfl (by decide) ?_
  refine ka_iconst (v := 0) d_X5_flag_16 rfl (by decide) ?_
  refine ka_iconst (v := 0) d_X5_flag_17 rfl (by decide) ?_
  exact k1
theorem cs_X5_flag_18 {L : Nat} {xs : Nat → Int32} {σ : ks_St} {mc ms : Nat} {P : ka_O → ks_St → Prop} {f : Int32 → ks_St → Prop} {x1 : Int32} {s1 : Int32} {s2 : Int32} {s3 : Int32} {s4 : Int32} (hK : ks_M L xs mX5_throwing rm_X5_throwing [.ref 17, .int s1, .int s2, .int s3, .int s4] σ (pi_ f)) (kr : ∀ r σ', f r σ' → ks_W L xs mX5_flag rm_X5_flag 21 [(0, .ref 17), (1, .int x1)] [.int r] σ' mc ms P) : ks_W L xs mX5_flag rm_X5_flag 18 [(0, .ref 17), (1, .int x1)] [.int s4, .int s3, .int s2, .int s1, .ref 17] σ mc ms P := by
  refine ks_callV (q := 21) (o := 17) (ci := 5) (As := [.int s1, .int s2, .int s3, .int s4]) (st := []) d_X5_flag_18 rfl rfl (by decide) rfl rfl lk_X5_56 ⟨by decide, by decide⟩ (Nat.le_of_ble_eq_true rfl) ⟨Nat.le_refl _, Nat.le_refl _⟩ hK (fun v σ' hq => ?_) (fun E σ' hq => ?_)
  · obtain ⟨r, e, hf⟩ := hq; cases e; exact kr r σ' hf
  · obtain ⟨r, e, hf⟩ := hq; cases e
theorem sg_X5_flag_21 {L : Nat} {xs : Nat → Int32} {σ : ks_St} {mc ms : Nat} {P : ka_O → ks_St → Prop} {x1 : Int32} {s0 : Int32}  (v2 : (s0 = 0) → vp_in x1 4) (k3 : (s0 = 0) → ks_W L xs mX5_flag rm_X5_flag 34 [] [.int (sf_ σ 20 x1.toNatClampNeg)] σ mc ms P) (k4 : (¬ (s0 = 0)) → ks_W L xs mX5_flag rm_X5_flag 34 [] [.int 0] σ mc ms P) : ks_W L xs mX5_flag rm_X5_flag 21 [(0, .ref 17), (1, .int x1)] [.int s0] σ mc ms P := by
  refine ka_if_eq (tgt := 28) d_X5_flag_21 (by decide) rfl (fun c1 => ?_) (fun c1 => ?_)
  · refine ka_aload_n d_X5_flag_28 rfl rfl 0 rfl ?_
    refine gf_X5_5 d_X5_flag_29 rfl fl_X5_18 ?_
    refine ka_iload_n d_X5_flag_32 rfl rfl 1 rfl ?_
    refine ks_iald row_20 d_X5_flag_33 rfl (v2 c1) ?_
    refine ka_sub [] rfl ?_
    exact (k3 c1)
  · refine ka_iconst (v := 0) d_X5_flag_24 rfl (by decide) ?_
    refine ka_goto (q := 34) d_X5_flag_25 (by decide) ?_
    refine ka_sub [] rfl ?_
    exact (k4 c1)
theorem sg_X5_flag_34 {L : Nat} {xs : Nat → Int32} {σ : ks_St} {mc ms : Nat} {P : ka_O → ks_St → Prop} {s0 : Int32}  (r1 : P (.inl (some (.int s0))) σ) : ks_W L xs mX5_flag rm_X5_flag 34 [] [.int s0] σ mc ms P := by
  exact ks_iret (ty := .int) d_X5_flag_34 rfl rfl r1
theorem d_X5_field_0 : decode cX5_field 0 = .ok (.aload_n 0, 1) := by decide +kernel
theorem d_X5_field_1 : decode cX5_field 1 = .ok (.iload_n 1, 1) := by decide +kernel
theorem d_X5_field_2 : decode cX5_field 2 = .ok (.invokevirtual 64, 3) := by decide +kernel
theorem d_X5_field_5 : decode cX5_field 5 = .ok (.ifCond .ne 7, 3) := by decide +kernel
theorem d_X5_field_8 : decode cX5_field 8 = .ok (.iconst 1, 1) := by decide +kernel
theorem d_X5_field_9 : decode cX5_field 9 = .ok (.goto 4, 3) := by decide +kernel
theorem d_X5_field_12 : decode cX5_field 12 = .ok (.iconst 0, 1) := by decide +kernel
theorem d_X5_field_13 : decode cX5_field 13 = .ok (.istore 4, 2) := by decide +kernel
theorem d_X5_field_15 : decode cX5_field 15 = .ok (.aload_n 0, 1) := by decide +kernel
theorem d_X5_field_16 : decode cX5_field 16 = .ok (.iload 4, 2) := by decide +kernel
theorem d_X5_field_18 : decode cX5_field 18 = .ok (.iload 4, 2) := by decide +kernel
theorem d_X5_field_20 : decode cX5_field 20 = .ok (.ifCond .ne 26, 3) := by decide +kernel
theorem d_X5_field_23 : decode cX5_field 23 = .ok (.iload_n 2, 1) := by decide +kernel
theorem d_X5_field_24 : decode cX5_field 24 = .ok (.ifCond .lt 18, 3) := by decide +kernel
theorem d_X5_field_27 : decode cX5_field 27 = .ok (.iload_n 3, 1) := by decide +kernel
theorem d_X5_field_28 : decode cX5_field 28 = .ok (.aload_n 0, 1) := by decide +kernel
theorem d_X5_field_29 : decode cX5_field 29 = .ok (.getfield 7, 3) := by decide +kernel
theorem d_X5_field_32 : decode cX5_field 32 = .ok (.iload_n 1, 1) := by decide +kernel
theorem d_X5_field_33 : decode cX5_field 33 = .ok (.iaload, 1) := by decide +kernel
theorem d_X5_field_34 : decode cX5_field 34 = .ok (.if_icmp .ge 8, 3) := by decide +kernel
theorem d_X5_field_37 : decode cX5_field 37 = .ok (.iload_n 2, 1) := by decide +kernel
theorem d_X5_field_38 : decode cX5_field 38 = .ok (.iload_n 3, 1) := by decide +kernel
theorem d_X5_field_39 : decode cX5_field 39 = .ok (.if_icmp .le 7, 3) := by decide +kernel
theorem d_X5_field_42 : decode cX5_field 42 = .ok (.iconst 1, 1) := by decide +kernel
theorem d_X5_field_43 : decode cX5_field 43 = .ok (.goto 4, 3) := by decide +kernel
theorem d_X5_field_46 : decode cX5_field 46 = .ok (.iconst 0, 1) := by decide +kernel
theorem d_X5_field_47 : decode cX5_field 47 = .ok (.aload_n 0, 1) := by decide +kernel
theorem d_X5_field_48 : decode cX5_field 48 = .ok (.getfield 53, 3) := by decide +kernel
theorem d_X5_field_51 : decode cX5_field 51 = .ok (.sipush 600, 3) := by decide +kernel
theorem d_X5_field_54 : decode cX5_field 54 = .ok (.if_icmp .ne 7, 3) := by decide +kernel
theorem d_X5_field_57 : decode cX5_field 57 = .ok (.iconst 1, 1) := by decide +kernel
theorem d_X5_field_58 : decode cX5_field 58 = .ok (.goto 4, 3) := by decide +kernel
theorem d_X5_field_61 : decode cX5_field 61 = .ok (.iconst 0, 1) := by decide +kernel
theorem d_X5_field_62 : decode cX5_field 62 = .ok (.iconst 0, 1) := by decide +kernel
theorem d_X5_field_63 : decode cX5_field 63 = .ok (.invokevirtual 56, 3) := by decide +kernel
theorem d_X5_field_66 : decode cX5_field 66 = .ok (.ifCond .eq 5, 3) := by decide +kernel
theorem d_X5_field_69 : decode cX5_field 69 = .ok (.iconst 0, 1) := by decide +kernel
theorem d_X5_field_70 : decode cX5_field 70 = .ok (.ireturn, 1) := by decide +kernel
theorem d_X5_field_71 : decode cX5_field 71 = .ok (.iload_n 2, 1) := by decide +kernel
theorem d_X5_field_72 : decode cX5_field 72 = .ok (.istore 5, 2) := by decide +kernel
theorem d_X5_field_74 : decode cX5_field 74 = .ok (.iload 5, 2) := by decide +kernel
theorem d_X5_field_76 : decode cX5_field 76 = .ok (.iload_n 3, 1) := by decide +kernel
theorem d_X5_field_77 : decode cX5_field 77 = .ok (.if_icmp .gt 25, 3) := by decide +kernel
theorem d_X5_field_80 : decode cX5_field 80 = .ok (.aload_n 0, 1) := by decide +kernel
theorem d_X5_field_81 : decode cX5_field 81 = .ok (.getfield 27, 3) := by decide +kernel
theorem d_X5_field_84 : decode cX5_field 84 = .ok (.iload 5, 2) := by decide +kernel
theorem d_X5_field_86 : decode cX5_field 86 = .ok (.iload_n 2, 1) := by decide +kernel
theorem d_X5_field_87 : decode cX5_field 87 = .ok (.isub, 1) := by decide +kernel
theorem d_X5_field_88 : decode cX5_field 88 = .ok (.aload_n 0, 1) := by decide +kernel
theorem d_X5_field_89 : decode cX5_field 89 = .ok (.iload_n 1, 1) := by decide +kernel
theorem d_X5_field_90 : decode cX5_field 90 = .ok (.iload 5, 2) := by decide +kernel
theorem d_X5_field_92 : decode cX5_field 92 = .ok (.invokevirtual 72, 3) := by decide +kernel
theorem d_X5_field_95 : decode cX5_field 95 = .ok (.iastore, 1) := by decide +kernel
theorem d_X5_field_96 : decode cX5_field 96 = .ok (.iinc 5 1, 3) := by decide +kernel
theorem d_X5_field_99 : decode cX5_field 99 = .ok (.goto (-25), 3) := by decide +kernel
theorem d_X5_field_102 : decode cX5_field 102 = .ok (.aload_n 0, 1) := by decide +kernel
theorem d_X5_field_103 : decode cX5_field 103 = .ok (.iconst 0, 1) := by decide +kernel
theorem d_X5_field_104 : decode cX5_field 104 = .ok (.iload_n 3, 1) := by decide +kernel
theorem d_X5_field_105 : decode cX5_field 105 = .ok (.iload_n 2, 1) := by decide +kernel
theorem d_X5_field_106 : decode cX5_field 106 = .ok (.isub, 1) := by decide +kernel
theorem d_X5_field_107 : decode cX5_field 107 = .ok (.iconst 1, 1) := by decide +kernel
theorem d_X5_field_108 : decode cX5_field 108 = .ok (.iadd, 1) := by decide +kernel
theorem d_X5_field_109 : decode cX5_field 109 = .ok (.invokevirtual 126, 3) := by decide +kernel
theorem d_X5_field_112 : decode cX5_field 112 = .ok (.ireturn, 1) := by decide +kernel
theorem sg_X5_field_0 {L : Nat} {xs : Nat → Int32} {σ : ks_St} {mc ms : Nat} {P : ka_O → ks_St → Prop} {x1 : Int32} {x2 : Int32} {x3 : Int32}  (k1 : ks_W L xs mX5_field rm_X5_field 2 [(0, .ref 17), (1, .int x1), (2, .int x2), (3, .int x3)] [.int x1, .ref 17] σ mc ms P) : ks_W L xs mX5_field rm_X5_field 0 [(0, .ref 17), (1, .int x1), (2, .int x2), (3, .int x3)] [] σ mc ms P := by
  refine ka_aload_n d_X5_field_0 rfl rfl 0 rfl ?_
  refine ka_iload_n d_X5_field_1 rfl rfl 1 rfl ?_
  exact k1
theorem cs_X5_field_2 {L : Nat} {xs : Nat → Int32} {σ : ks_St} {mc ms : Nat} {P : ka_O → ks_St → Prop} {f : Int32 → ks_St → Prop} {x1 : Int32} {x2 : Int32} {x3 : Int32} {s1 : Int32} (hK : ks_M L xs mX5_isWord rm_X5_isWord [.ref 17, .int s1] σ (pi_ f)) (kr : ∀ r σ', f r σ' → ks_W L xs mX5_field rm_X5_field 5 [(0, .ref 17), (1, .int x1), (2, .int x2), (3, .int x3)] [.int r] σ' mc ms P) : ks_W L xs mX5_field rm_X5_field 2 [(0, .ref 17), (1, .int x1), (2, .int x2), (3, .int x3)] [.int s1, .ref 17] σ mc ms P := by
  refine ks_callV (q := 5) (o := 17) (ci := 5) (As := [.int s1]) (st := []) d_X5_field_2 rfl rfl (by decide) rfl rfl lk_X5_64 ⟨by decide, by decide⟩ (Nat.le_of_ble_eq_true rfl) ⟨Nat.le_refl _, Nat.le_refl _⟩ hK (fun v σ' hq => ?_) (fun E σ' hq => ?_)
  · obtain ⟨r, e, hf⟩ := hq; cases e; exact kr r σ' hf
  · obtain ⟨r, e, hf⟩ := hq; cases e
theorem sg_X5_field_5 {L : Nat} {xs : Nat → Int32} {σ : ks_St} {mc ms : Nat} {P : ka_O → ks_St → Prop} {x1 : Int32} {x2 : Int32} {x3 : Int32} {s0 : Int32}  (k2 : (¬ s0 = 0) → ks_W L xs mX5_field rm_X5_field 13 [(0, .ref 17), (1, .int x1), (2, .int x2), (3, .int x3)] [.int 0] σ mc ms P) (k3 : (s0 = 0) → ks_W L xs mX5_field rm_X5_field 13 [(0, .ref 17), (1, .int x1), (2, .int x2), (3, .int x3)] [.int 1] σ mc ms P) : ks_W L xs mX5_field rm_X5_field 5 [(0, .ref 17), (1, .int x1), (2, .int x2), (3, .int x3)] [.int s0] σ mc ms P := by
  refine ka_if_ne (tgt := 12) d_X5_field_5 (by decide) rfl (fun c1 => ?_) (fun c1 => ?_)
  · refine ka_iconst (v := 0) d_X5_field_12 rfl (by decide) ?_
    exact (k2 c1)
  · refine ka_iconst (v := 1) d_X5_field_8 rfl (by decide) ?_
    refine ka_goto (q := 13) d_X5_field_9 (by decide) ?_
    exact (k3 c1)
theorem sg_X5_field_13 {L : Nat} {xs : Nat → Int32} {σ : ks_St} {mc ms : Nat} {P : ka_O → ks_St → Prop} {x1 : Int32} {x2 : Int32} {x3 : Int32} {s0 : Int32}  (k2 : (¬ s0 = 0) → ks_W L xs mX5_field rm_X5_field 46 [(0, .ref 17), (1, .int x1), (2, .int x2), (3, .int x3)] [.int s0, .ref 17] σ mc ms P) (k4 : (s0 = 0) → (x2 < 0) → ks_W L xs mX5_field rm_X5_field 42 [(0, .ref 17), (1, .int x1), (2, .int x2), (3, .int x3)] [.int s0, .ref 17] σ mc ms P) (v5 : (s0 = 0) → (¬ (x2 < 0)) → vp_in x1 600) (k7 : (s0 = 0) → (¬ (x2 < 0)) → ((sf_ σ 18 x1.toNatClampNeg) ≤ x3) → ks_W L xs mX5_field rm_X5_field 42 [(0, .ref 17), (1, .int x1), (2, .int x2), (3, .int x3)] [.int s0, .ref 17] σ mc ms P) (k9 : (s0 = 0) → (¬ (x2 < 0)) → (¬ ((sf_ σ 18 x1.toNatClampNeg) ≤ x3)) → (x2 ≤ x3) → ks_W L xs mX5_field rm_X5_field 46 [(0, .ref 17), (1, .int x1), (2, .int x2), (3, .int x3)] [.int s0, .ref 17] σ mc ms P) (k10 : (s0 = 0) → (¬ (x2 < 0)) → (¬ ((sf_ σ 18 x1.toNatClampNeg) ≤ x3)) → (¬ (x2 ≤ x3)) → ks_W L xs mX5_field rm_X5_field 42 [(0, .ref 17), (1, .int x1), (2, .int x2), (3, .int x3)] [.int s0, .ref 17] σ mc ms P) : ks_W L xs mX5_field rm_X5_field 13 [(0, .ref 17), (1, .int x1), (2, .int x2), (3, .int x3)] [.int s0] σ mc ms P := by
  refine ka_istore (ls' := [(4, .int s0), (0, .ref 17), (1, .int x1), (2, .int x2), (3, .int x3)]) d_X5_field_13 rfl (by decide) rfl ?_
  refine ka_aload_n d_X5_field_15 rfl rfl 1 rfl ?_
  refine ka_iload d_X5_field_16 rfl 0 rfl ?_
  refine ka_iload d_X5_field_18 rfl 0 rfl ?_
  refine ka_if_ne (tgt := 46) d_X5_field_20 (by decide) rfl (fun c1 => ?_) (fun c1 => ?_)
  · refine ka_sub [1, 2, 3, 4] rfl ?_
    exact (k2 c1)
  · refine ka_iload_n d_X5_field_23 rfl rfl 3 rfl ?_
    refine ka_if_lt (tgt := 42) d_X5_field_24 (by decide) rfl (fun c3 => ?_) (fun c3 => ?_)
    · refine ka_sub [1, 2, 3, 4] rfl ?_
      exact (k4 c1 c3)
    · refine ka_iload_n d_X5_field_27 rfl rfl 4 rfl ?_
      refine ka_aload_n d_X5_field_28 rfl rfl 1 rfl ?_
      refine gf_X5_3 d_X5_field_29 rfl fl_X5_7 ?_
      refine ka_iload_n d_X5_field_32 rfl rfl 2 rfl ?_
      refine ks_iald row_18 d_X5_field_33 rfl (v5 c1 c3) ?_
      refine ka_icmp_ge (tgt := 42) d_X5_field_34 (by decide) rfl (fun c6 => ?_) (fun c6 => ?_)
      · refine ka_sub [1, 2, 3, 4] rfl ?_
        exact (k7 c1 c3 c6)
      · refine ka_iload_n d_X5_field_37 rfl rfl 3 rfl ?_
        refine ka_iload_n d_X5_field_38 rfl rfl 4 rfl ?_
        refine ka_icmp_le (tgt := 46) d_X5_field_39 (by decide) rfl (fun c8 => ?_) (fun c8 => ?_)
        · refine ka_sub [1, 2, 3, 4] rfl ?_
          exact (k9 c1 c3 c6 c8)
        · refine ka_sub [1, 2, 3, 4] rfl ?_
          exact (k10 c1 c3 c6 c8)
theorem sg_X5_field_42 {L : Nat} {xs : Nat → Int32} {σ : ks_St} {mc ms : Nat} {P : ka_O → ks_St → Prop} {x1 : Int32} {x2 : Int32} {x3 : Int32} {s1 : Int32}  (k1 : ks_W L xs mX5_field rm_X5_field 47 [(0, .ref 17), (1, .int x1), (2, .int x2), (3, .int x3)] [.int 1, .int s1, .ref 17] σ mc ms P) : ks_W L xs mX5_field rm_X5_field 42 [(0, .ref 17), (1, .int x1), (2, .int x2), (3, .int x3)] [.int s1, .ref 17] σ mc ms P := by
  refine ka_iconst (v := 1) d_X5_field_42 rfl (by decide) ?_
  refine ka_goto (q := 47) d_X5_field_43 (by decide) ?_
  exact k1
theorem sg_X5_field_46 {L : Nat} {xs : Nat → Int32} {σ : ks_St} {mc ms : Nat} {P : ka_O → ks_St → Prop} {x1 : Int32} {x2 : Int32} {x3 : Int32} {s1 : Int32}  (k1 : ks_W L xs mX5_field rm_X5_field 47 [(0, .ref 17), (1, .int x1), (2, .int x2), (3, .int x3)] [.int 0, .int s1, .ref 17] σ mc ms P) : ks_W L xs mX5_field rm_X5_field 46 [(0, .ref 17), (1, .int x1), (2, .int x2), (3, .int x3)] [.int s1, .ref 17] σ mc ms P := by
  refine ka_iconst (v := 0) d_X5_field_46 rfl (by decide) ?_
  exact k1
theorem sg_X5_field_47 {L : Nat} {xs : Nat → Int32} {σ : ks_St} {mc ms : Nat} {P : ka_O → ks_St → Prop} {x1 : Int32} {x2 : Int32} {x3 : Int32} {s1 : Int32} {s2 : Int32}  (k2 : (¬ (si_ σ 16) = 600) → ks_W L xs mX5_field rm_X5_field 62 [(0, .ref 17), (1, .int x1), (2, .int x2), (3, .int x3)] [.int 0, .int s2, .int s1, .ref 17] σ mc ms P) (k3 : ((si_ σ 16) = 600) → ks_W L xs mX5_field rm_X5_field 62 [(0, .ref 17), (1, .int x1), (2, .int x2), (3, .int x3)] [.int 1, .int s2, .int s1, .ref 17] σ mc ms P) : ks_W L xs mX5_field rm_X5_field 47 [(0, .ref 17), (1, .int x1), (2, .int x2), (3, .int x3)] [.int s2, .int s1, .ref 17] σ mc ms P := by
  refine ka_aload_n d_X5_field_47 rfl rfl 0 rfl ?_
  refine gf_X5_2 d_X5_field_48 rfl fl_X5_53 ?_
  refine ka_sipush (v := 600) d_X5_field_51 rfl (by decide) ?_
  refine ka_icmp_ne (tgt := 61) d_X5_field_54 (by decide) rfl (fun c1 => ?_) (fun c1 => ?_)
  · refine ka_iconst (v := 0) d_X5_field_61 rfl (by decide) ?_
    exact (k2 c1)
  · refine ka_iconst (v := 1) d_X5_field_57 rfl (by decide) ?_
    refine ka_goto (q := 62) d_X5_field_58 (by decide) ?_
    exact (k3 c1)
theorem sg_X5_field_62 {L : Nat} {xs : Nat → Int32} {σ : ks_St} {mc ms : Nat} {P : ka_O → ks_St → Prop} {x1 : Int32} {x2 : Int32} {x3 : Int32} {s1 : Int32} {s2 : Int32} {s3 : Int32}  (k1 : ks_W L xs mX5_field rm_X5_field 63 [(0, .ref 17), (1, .int x1), (2, .int x2), (3, .int x3)] [.int 0, .int s3, .int s2, .int s1, .ref 17] σ mc ms P) : ks_W L xs mX5_field rm_X5_field 62 [(0, .ref 17), (1, .int x1), (2, .int x2), (3, .int x3)] [.int s3, .int s2, .int s1, .ref 17] σ mc ms P := by
  refine ka_iconst (v := 0) d_X5_field_62 rfl (by decide) ?_
  exact k1
theorem cs_X5_field_63 {L : Nat} {xs : Nat → Int32} {σ : ks_St} {mc ms : Nat} {P : ka_O → ks_St → Prop} {f : Int32 → ks_St → Prop} {x1 : Int32} {x2 : Int32} {x3 : Int32} {s1 : Int32} {s2 : Int32} {s3 : Int32} {s4 : Int32} (hK : ks_M L xs mX5_throwing rm_X5_throwing [.ref 17, .int s1, .int s2, .int s3, .int s4] σ (pi_ f)) (kr : ∀ r σ', f r σ' → ks_W L xs mX5_field rm_X5_field 66 [(0, .ref 17), (1, .int x1), (2, .int x2), (3, .int x3)] [.int r] σ' mc ms P) : ks_W L xs mX5_field rm_X5_field 63 [(0, .ref 17), (1, .int x1), (2, .int x2), (3, .int x3)] [.int s4, .int s3, .int s2, .int s1, .ref 17] σ mc ms P := by
  refine ks_callV (q := 66) (o := 17) (ci := 5) (As := [.int s1, .int s2, .int s3, .int s4]) (st := []) d_X5_field_63 rfl rfl (by decide) rfl rfl lk_X5_56 ⟨by decide, by decide⟩ (Nat.le_of_ble_eq_true rfl) ⟨Nat.le_refl _, Nat.le_refl _⟩ hK (fun v σ' hq => ?_) (fun E σ' hq => ?_)
  · obtain ⟨r, e, hf⟩ := hq; cases e; exact kr r σ' hf
  · obtain ⟨r, e, hf⟩ := hq; cases e
theorem sg_X5_field_66 {L : Nat} {xs : Nat → Int32} {σ : ks_St} {mc ms : Nat} {P : ka_O → ks_St → Prop} {x1 : Int32} {x2 : Int32} {x3 : Int32} {s0 : Int32}  (k2 : (s0 = 0) → ks_W L xs mX5_field rm_X5_field 74 [(0, .ref 17), (1, .int x1), (2, .int x2), (3, .int x3), (5, .int x2)] [] σ mc ms P) (r3 : (¬ (s0 = 0)) → P (.inl (some (.int 0))) σ) : ks_W L xs mX5_field rm_X5_field 66 [(0, .ref 17), (1, .int x1), (2, .int x2), (3, .int x3)] [.int s0] σ mc ms P := by
  refine ka_if_eq (tgt := 71) d_X5_field_66 (by decide) rfl (fun c1 => ?_) (fun c1 => ?_)
  · refine ka_iload_n d_X5_field_71 rfl rfl 2 rfl ?_
    refine ka_istore (ls' := [(5, .int x2), (0, .ref 17), (1, .int x1), (2, .int x2), (3, .int x3)]) d_X5_field_72 rfl (by decide) rfl ?_
    refine ka_sub [1, 2, 3, 4, 0] rfl ?_
    exact (k2 c1)
  · refine ka_iconst (v := 0) d_X5_field_69 rfl (by decide) ?_
    exact ks_iret (ty := .int) d_X5_field_70 rfl rfl (r3 c1)
theorem sg_X5_field_74 {L : Nat} {xs : Nat → Int32} {σ : ks_St} {mc ms : Nat} {P : ka_O → ks_St → Prop} {x1 : Int32} {x2 : Int32} {x3 : Int32} {x5 : Int32}  (k2 : (x3 < x5) → ks_W L xs mX5_field rm_X5_field 109 [] [.int ((x3 - x2) + 1), .int 0, .ref 17] σ mc ms P) (k3 : (¬ (x3 < x5)) → ks_W L xs mX5_field rm_X5_field 92 [(0, .ref 17), (1, .int x1), (2, .int x2), (3, .int x3), (5, .int x5)] [.int x5, .int x1, .ref 17, .int (x5 - x2), .ref 23] σ mc ms P) : ks_W L xs mX5_field rm_X5_field 74 [(0, .ref 17), (1, .int x1), (2, .int x2), (3, .int x3), (5, .int x5)] [] σ mc ms P := by
  refine ka_iload d_X5_field_74 rfl 4 rfl ?_
  refine ka_iload_n d_X5_field_76 rfl rfl 3 rfl ?_
  refine ka_icmp_gt (tgt := 102) d_X5_field_77 (by decide) rfl (fun c1 => ?_) (fun c1 => ?_)
  · refine ka_aload_n d_X5_field_102 rfl rfl 0 rfl ?_
    refine ka_iconst (v := 0) d_X5_field_103 rfl (by decide) ?_
    refine ka_iload_n d_X5_field_104 rfl rfl 3 rfl ?_
    refine ka_iload_n d_X5_field_105 rfl rfl 2 rfl ?_
    refine ka_isub d_X5_field_106 rfl ?_
    refine ka_iconst (v := 1) d_X5_field_107 rfl (by decide) ?_
    refine ka_iadd d_X5_field_108 rfl ?_
    refine ka_sub [] rfl ?_
    exact (k2 c1)
  · refine ka_aload_n d_X5_field_80 rfl rfl 0 rfl ?_
    refine gf_X5_9 d_X5_field_81 rfl fl_X5_27 ?_
    refine ka_iload d_X5_field_84 rfl 4 rfl ?_
    refine ka_iload_n d_X5_field_86 rfl rfl 2 rfl ?_
    refine ka_isub d_X5_field_87 rfl ?_
    refine ka_aload_n d_X5_field_88 rfl rfl 0 rfl ?_
    refine ka_iload_n d_X5_field_89 rfl rfl 1 rfl ?_
    refine ka_iload d_X5_field_90 rfl 4 rfl ?_
    exact (k3 c1)
theorem cs_X5_field_92 {L : Nat} {xs : Nat → Int32} {σ : ks_St} {mc ms : Nat} {P : ka_O → ks_St → Prop} {f : Int32 → ks_St → Prop} {x1 : Int32} {x2 : Int32} {x3 : Int32} {x5 : Int32} {s1 : Int32} {s3 : Int32} {s4 : Int32} (hK : ks_M L xs mX5_bitOf rm_X5_bitOf [.ref 17, .int s3, .int s4] σ (pi_ f)) (kr : ∀ r σ', f r σ' → ks_W L xs mX5_field rm_X5_field 95 [(0, .ref 17), (1, .int x1), (2, .int x2), (3, .int x3), (5, .int x5)] [.int r, .int s1, .ref 23] σ' mc ms P) : ks_W L xs mX5_field rm_X5_field 92 [(0, .ref 17), (1, .int x1), (2, .int x2), (3, .int x3), (5, .int x5)] [.int s4, .int s3, .ref 17, .int s1, .ref 23] σ mc ms P := by
  refine ks_callV (q := 95) (o := 17) (ci := 5) (As := [.int s3, .int s4]) (st := [.int s1, .ref 23]) d_X5_field_92 rfl rfl (by decide) rfl rfl lk_X5_72 ⟨by decide, by decide⟩ (Nat.le_of_ble_eq_true rfl) ⟨Nat.le_refl _, Nat.le_refl _⟩ hK (fun v σ' hq => ?_) (fun E σ' hq => ?_)
  · obtain ⟨r, e, hf⟩ := hq; cases e; exact kr r σ' hf
  · obtain ⟨r, e, hf⟩ := hq; cases e
theorem sg_X5_field_95 {L : Nat} {xs : Nat → Int32} {σ : ks_St} {mc ms : Nat} {P : ka_O → ks_St → Prop} {x1 : Int32} {x2 : Int32} {x3 : Int32} {x5 : Int32} {s1 : Int32} {s2 : Int32}  (v1 : vp_in s1 1026) (k2 : ks_W L xs mX5_field rm_X5_field 74 [(0, .ref 17), (1, .int x1), (2, .int x2), (3, .int x3), (5, .int (x5 + 1))] [] (uf_ σ 23 (upd (sf_ σ 23) s1.toNatClampNeg s2)) mc ms P) : ks_W L xs mX5_field rm_X5_field 95 [(0, .ref 17), (1, .int x1), (2, .int x2), (3, .int x3), (5, .int x5)] [.int s2, .int s1, .ref 23] σ mc ms P := by
  refine ks_iast row_23 d_X5_field_95 rfl v1 ?_
  refine ka_iinc (g := 4) (v := x5 + 1) (ls' := [(5, .int (x5 + 1)), (0, .ref 17), (1, .int x1), (2, .int x2), (3, .int x3)]) d_X5_field_96 rfl rfl rfl (by decide) rfl ?_
  refine ka_goto (q := 74) d_X5_field_99 (by decide) ?_
  refine ka_sub [1, 2, 3, 4, 0] rfl ?_
  exact k2
theorem cs_X5_field_109 {L : Nat} {xs : Nat → Int32} {σ : ks_St} {mc ms : Nat} {P : ka_O → ks_St → Prop} {f : Int32 → ks_St → Prop} {s1 : Int32} {s2 : Int32} (hK : ks_M L xs mX5_keep rm_X5_keep [.ref 17, .int s1, .int s2] σ (pi_ f)) (kr : ∀ r σ', f r σ' → ks_W L xs mX5_field rm_X5_field 112 [] [.int r] σ' mc ms P) : ks_W L xs mX5_field rm_X5_field 109 [] [.int s2, .int s1, .ref 17] σ mc ms P := by
  refine ks_callV (q := 112) (o := 17) (ci := 5) (As := [.int s1, .int s2]) (st := []) d_X5_field_109 rfl rfl (by decide) rfl rfl lk_X5_126 ⟨by decide, by decide⟩ (Nat.le_of_ble_eq_true rfl) ⟨Nat.le_refl _, Nat.le_refl _⟩ hK (fun v σ' hq => ?_) (fun E σ' hq => ?_)
  · obtain ⟨r, e, hf⟩ := hq; cases e; exact kr r σ' hf
  · obtain ⟨r, e, hf⟩ := hq; cases e
theorem sg_X5_field_112 {L : Nat} {xs : Nat → Int32} {σ : ks_St} {mc ms : Nat} {P : ka_O → ks_St → Prop} {s0 : Int32}  (r1 : P (.inl (some (.int s0))) σ) : ks_W L xs mX5_field rm_X5_field 112 [] [.int s0] σ mc ms P := by
  exact ks_iret (ty := .int) d_X5_field_112 rfl rfl r1
theorem d_X5_join_0 : decode cX5_join 0 = .ok (.aload_n 0, 1) := by decide +kernel
theorem d_X5_join_1 : decode cX5_join 1 = .ok (.iload_n 1, 1) := by decide +kernel
theorem d_X5_join_2 : decode cX5_join 2 = .ok (.invokevirtual 64, 3) := by decide +kernel
theorem d_X5_join_5 : decode cX5_join 5 = .ok (.ifCond .eq 11, 3) := by decide +kernel
theorem d_X5_join_8 : decode cX5_join 8 = .ok (.aload_n 0, 1) := by decide +kernel
theorem d_X5_join_9 : decode cX5_join 9 = .ok (.iload_n 2, 1) := by decide +kernel
theorem d_X5_join_10 : decode cX5_join 10 = .ok (.invokevirtual 64, 3) := by decide +kernel
theorem d_X5_join_13 : decode cX5_join 13 = .ok (.ifCond .ne 7, 3) := by decide +kernel
theorem d_X5_join_16 : decode cX5_join 16 = .ok (.iconst 1, 1) := by decide +kernel
theorem d_X5_join_17 : decode cX5_join 17 = .ok (.goto 4, 3) := by decide +kernel
theorem d_X5_join_20 : decode cX5_join 20 = .ok (.iconst 0, 1) := by decide +kernel
theorem d_X5_join_21 : decode cX5_join 21 = .ok (.istore_n 3, 1) := by decide +kernel
theorem d_X5_join_22 : decode cX5_join 22 = .ok (.aload_n 0, 1) := by decide +kernel
theorem d_X5_join_23 : decode cX5_join 23 = .ok (.iload_n 3, 1) := by decide +kernel
theorem d_X5_join_24 : decode cX5_join 24 = .ok (.iload_n 3, 1) := by decide +kernel
theorem d_X5_join_25 : decode cX5_join 25 = .ok (.ifCond .ne 26, 3) := by decide +kernel
theorem d_X5_join_28 : decode cX5_join 28 = .ok (.aload_n 0, 1) := by decide +kernel
theorem d_X5_join_29 : decode cX5_join 29 = .ok (.getfield 7, 3) := by decide +kernel
theorem d_X5_join_32 : decode cX5_join 32 = .ok (.iload_n 1, 1) := by decide +kernel
theorem d_X5_join_33 : decode cX5_join 33 = .ok (.iaload, 1) := by decide +kernel
theorem d_X5_join_34 : decode cX5_join 34 = .ok (.aload_n 0, 1) := by decide +kernel
theorem d_X5_join_35 : decode cX5_join 35 = .ok (.getfield 7, 3) := by decide +kernel
theorem d_X5_join_38 : decode cX5_join 38 = .ok (.iload_n 2, 1) := by decide +kernel
theorem d_X5_join_39 : decode cX5_join 39 = .ok (.iaload, 1) := by decide +kernel
theorem d_X5_join_40 : decode cX5_join 40 = .ok (.iadd, 1) := by decide +kernel
theorem d_X5_join_41 : decode cX5_join 41 = .ok (.sipush 512, 3) := by decide +kernel
theorem d_X5_join_44 : decode cX5_join 44 = .ok (.if_icmp .le 7, 3) := by decide +kernel
theorem d_X5_join_47 : decode cX5_join 47 = .ok (.iconst 1, 1) := by decide +kernel
theorem d_X5_join_48 : decode cX5_join 48 = .ok (.goto 4, 3) := by decide +kernel
theorem d_X5_join_51 : decode cX5_join 51 = .ok (.iconst 0, 1) := by decide +kernel
theorem d_X5_join_52 : decode cX5_join 52 = .ok (.aload_n 0, 1) := by decide +kernel
theorem d_X5_join_53 : decode cX5_join 53 = .ok (.getfield 53, 3) := by decide +kernel
theorem d_X5_join_56 : decode cX5_join 56 = .ok (.sipush 600, 3) := by decide +kernel
theorem d_X5_join_59 : decode cX5_join 59 = .ok (.if_icmp .ne 7, 3) := by decide +kernel
theorem d_X5_join_62 : decode cX5_join 62 = .ok (.iconst 1, 1) := by decide +kernel
theorem d_X5_join_63 : decode cX5_join 63 = .ok (.goto 4, 3) := by decide +kernel
theorem d_X5_join_66 : decode cX5_join 66 = .ok (.iconst 0, 1) := by decide +kernel
theorem d_X5_join_67 : decode cX5_join 67 = .ok (.iconst 0, 1) := by decide +kernel
theorem d_X5_join_68 : decode cX5_join 68 = .ok (.invokevirtual 56, 3) := by decide +kernel
theorem d_X5_join_71 : decode cX5_join 71 = .ok (.ifCond .eq 5, 3) := by decide +kernel
theorem d_X5_join_74 : decode cX5_join 74 = .ok (.iconst 0, 1) := by decide +kernel
theorem d_X5_join_75 : decode cX5_join 75 = .ok (.ireturn, 1) := by decide +kernel
theorem d_X5_join_76 : decode cX5_join 76 = .ok (.iconst 0, 1) := by decide +kernel
theorem d_X5_join_77 : decode cX5_join 77 = .ok (.istore 4, 2) := by decide +kernel
theorem d_X5_join_79 : decode cX5_join 79 = .ok (.iload 4, 2) := by decide +kernel
theorem d_X5_join_81 : decode cX5_join 81 = .ok (.aload_n 0, 1) := by decide +kernel
theorem d_X5_join_82 : decode cX5_join 82 = .ok (.getfield 7, 3) := by decide +kernel
theorem d_X5_join_85 : decode cX5_join 85 = .ok (.iload_n 2, 1) := by decide +kernel
theorem d_X5_join_86 : decode cX5_join 86 = .ok (.iaload, 1) := by decide +kernel
theorem d_X5_join_87 : decode cX5_join 87 = .ok (.if_icmp .ge 23, 3) := by decide +kernel
theorem d_X5_join_90 : decode cX5_join 90 = .ok (.aload_n 0, 1) := by decide +kernel
theorem d_X5_join_91 : decode cX5_join 91 = .ok (.getfield 27, 3) := by decide +kernel
theorem d_X5_join_94 : decode cX5_join 94 = .ok (.iload 4, 2) := by decide +kernel
theorem d_X5_join_96 : decode cX5_join 96 = .ok (.aload_n 0, 1) := by decide +kernel
theorem d_X5_join_97 : decode cX5_join 97 = .ok (.iload_n 2, 1) := by decide +kernel
theorem d_X5_join_98 : decode cX5_join 98 = .ok (.iload 4, 2) := by decide +kernel
theorem d_X5_join_100 : decode cX5_join 100 = .ok (.invokevirtual 72, 3) := by decide +kernel
theorem d_X5_join_103 : decode cX5_join 103 = .ok (.iastore, 1) := by decide +kernel
theorem d_X5_join_104 : decode cX5_join 104 = .ok (.iinc 4 1, 3) := by decide +kernel
theorem d_X5_join_107 : decode cX5_join 107 = .ok (.goto (-28), 3) := by decide +kernel
theorem d_X5_join_110 : decode cX5_join 110 = .ok (.iconst 0, 1) := by decide +kernel
theorem d_X5_join_111 : decode cX5_join 111 = .ok (.istore 4, 2) := by decide +kernel
theorem d_X5_join_113 : decode cX5_join 113 = .ok (.iload 4, 2) := by decide +kernel
theorem d_X5_join_115 : decode cX5_join 115 = .ok (.aload_n 0, 1) := by decide +kernel
theorem d_X5_join_116 : decode cX5_join 116 = .ok (.getfield 7, 3) := by decide +kernel
theorem d_X5_join_119 : decode cX5_join 119 = .ok (.iload_n 1, 1) := by decide +kernel
theorem d_X5_join_120 : decode cX5_join 120 = .ok (.iaload, 1) := by decide +kernel
theorem d_X5_join_121 : decode cX5_join 121 = .ok (.if_icmp .ge 30, 3) := by decide +kernel
theorem d_X5_join_124 : decode cX5_join 124 = .ok (.aload_n 0, 1) := by decide +kernel
theorem d_X5_join_125 : decode cX5_join 125 = .ok (.getfield 27, 3) := by decide +kernel
theorem d_X5_join_128 : decode cX5_join 128 = .ok (.aload_n 0, 1) := by decide +kernel
theorem d_X5_join_129 : decode cX5_join 129 = .ok (.getfield 7, 3) := by decide +kernel
theorem d_X5_join_132 : decode cX5_join 132 = .ok (.iload_n 2, 1) := by decide +kernel
theorem d_X5_join_133 : decode cX5_join 133 = .ok (.iaload, 1) := by decide +kernel
theorem d_X5_join_134 : decode cX5_join 134 = .ok (.iload 4, 2) := by decide +kernel
theorem d_X5_join_136 : decode cX5_join 136 = .ok (.iadd, 1) := by decide +kernel
theorem d_X5_join_137 : decode cX5_join 137 = .ok (.aload_n 0, 1) := by decide +kernel
theorem d_X5_join_138 : decode cX5_join 138 = .ok (.iload_n 1, 1) := by decide +kernel
theorem d_X5_join_139 : decode cX5_join 139 = .ok (.iload 4, 2) := by decide +kernel
theorem d_X5_join_141 : decode cX5_join 141 = .ok (.invokevirtual 72, 3) := by decide +kernel
theorem d_X5_join_144 : decode cX5_join 144 = .ok (.iastore, 1) := by decide +kernel
theorem d_X5_join_145 : decode cX5_join 145 = .ok (.iinc 4 1, 3) := by decide +kernel
theorem d_X5_join_148 : decode cX5_join 148 = .ok (.goto (-35), 3) := by decide +kernel
theorem d_X5_join_151 : decode cX5_join 151 = .ok (.aload_n 0, 1) := by decide +kernel
theorem d_X5_join_152 : decode cX5_join 152 = .ok (.iconst 0, 1) := by decide +kernel
theorem d_X5_join_153 : decode cX5_join 153 = .ok (.aload_n 0, 1) := by decide +kernel
theorem d_X5_join_154 : decode cX5_join 154 = .ok (.getfield 7, 3) := by decide +kernel
theorem d_X5_join_157 : decode cX5_join 157 = .ok (.iload_n 1, 1) := by decide +kernel
theorem d_X5_join_158 : decode cX5_join 158 = .ok (.iaload, 1) := by decide +kernel
theorem d_X5_join_159 : decode cX5_join 159 = .ok (.aload_n 0, 1) := by decide +kernel
theorem d_X5_join_160 : decode cX5_join 160 = .ok (.getfield 7, 3) := by decide +kernel
theorem d_X5_join_163 : decode cX5_join 163 = .ok (.iload_n 2, 1) := by decide +kernel
theorem d_X5_join_164 : decode cX5_join 164 = .ok (.iaload, 1) := by decide +kernel
theorem d_X5_join_165 : decode cX5_join 165 = .ok (.iadd, 1) := by decide +kernel
theorem d_X5_join_166 : decode cX5_join 166 = .ok (.invokevirtual 126, 3) := by decide +kernel
theorem d_X5_join_169 : decode cX5_join 169 = .ok (.ireturn, 1) := by decide +kernel
theorem sg_X5_join_0 {L : Nat} {xs : Nat → Int32} {σ : ks_St} {mc ms : Nat} {P : ka_O → ks_St → Prop} {x1 : Int32} {x2 : Int32}  (k1 : ks_W L xs mX5_join rm_X5_join 2 [(0, .ref 17), (1, .int x1), (2, .int x2)] [.int x1, .ref 17] σ mc ms P) : ks_W L xs mX5_join rm_X5_join 0 [(0, .ref 17), (1, .int x1), (2, .int x2)] [] σ mc ms P := by
  refine ka_aload_n d_X5_join_0 rfl rfl 0 rfl ?_
  refine ka_iload_n d_X5_join_1 rfl rfl 1 rfl ?_
  exact k1
theorem cs_X5_join_2 {L : Nat} {xs : Nat → Int32} {σ : ks_St} {mc ms : Nat} {P : ka_O → ks_St → Prop} {f : Int32 → ks_St → Prop} {x1 : Int32} {x2 : Int32} {s1 : Int32} (hK : ks_M L xs mX5_isWord rm_X5_isWord [.ref 17, .int s1] σ (pi_ f)) (kr : ∀ r σ', f r σ' → ks_W L xs mX5_join rm_X5_join 5 [(0, .ref 17), (1, .int x1), (2, .int x2)] [.int r] σ' mc ms P) : ks_W L xs mX5_join rm_X5_join 2 [(0, .ref 17), (1, .int x1), (2, .int x2)] [.int s1, .ref 17] σ mc ms P := by
  refine ks_callV (q := 5) (o := 17) (ci := 5) (As := [.int s1]) (st := []) d_X5_join_2 rfl rfl (by decide) rfl rfl lk_X5_64 ⟨by decide, by decide⟩ (Nat.le_of_ble_eq_true rfl) ⟨Nat.le_refl _, Nat.le_refl _⟩ hK (fun v σ' hq => ?_) (fun E σ' hq => ?_)
  · obtain ⟨r, e, hf⟩ := hq; cases e; exact kr r σ' hf
  · obtain ⟨r, e, hf⟩ := hq; cases e
theorem sg_X5_join_5 {L : Nat} {xs : Nat → Int32} {σ : ks_St} {mc ms : Nat} {P : ka_O → ks_St → Prop} {x1 : Int32} {x2 : Int32} {s0 : Int32}  (k2 : (s0 = 0) → ks_W L xs mX5_join rm_X5_join 16 [(0, .ref 17), (1, .int x1), (2, .int x2)] [] σ mc ms P) (k3 : (¬ (s0 = 0)) → ks_W L xs mX5_join rm_X5_join 10 [(0, .ref 17), (1, .int x1), (2, .int x2)] [.int x2, .ref 17] σ mc ms P) : ks_W L xs mX5_join rm_X5_join 5 [(0, .ref 17), (1, .int x1), (2, .int x2)] [.int s0] σ mc ms P := by
  refine ka_if_eq (tgt := 16) d_X5_join_5 (by decide) rfl (fun c1 => ?_) (fun c1 => ?_)
  · exact (k2 c1)
  · refine ka_aload_n d_X5_join_8 rfl rfl 0 rfl ?_
    refine ka_iload_n d_X5_join_9 rfl rfl 2 rfl ?_
    exact (k3 c1)
theorem cs_X5_join_10 {L : Nat} {xs : Nat → Int32} {σ : ks_St} {mc ms : Nat} {P : ka_O → ks_St → Prop} {f : Int32 → ks_St → Prop} {x1 : Int32} {x2 : Int32} {s1 : Int32} (hK : ks_M L xs mX5_isWord rm_X5_isWord [.ref 17, .int s1] σ (pi_ f)) (kr : ∀ r σ', f r σ' → ks_W L xs mX5_join rm_X5_join 13 [(0, .ref 17), (1, .int x1), (2, .int x2)] [.int r] σ' mc ms P) : ks_W L xs mX5_join rm_X5_join 10 [(0, .ref 17), (1, .int x1), (2, .int x2)] [.int s1, .ref 17] σ mc ms P := by
  refine ks_callV (q := 13) (o := 17) (ci := 5) (As := [.int s1]) (st := []) d_X5_join_10 rfl rfl (by decide) rfl rfl lk_X5_64 ⟨by decide, by decide⟩ (Nat.le_of_ble_eq_true rfl) ⟨Nat.le_refl _, Nat.le_refl _⟩ hK (fun v σ' hq => ?_) (fun E σ' hq => ?_)
  · obtain ⟨r, e, hf⟩ := hq; cases e; exact kr r σ' hf
  · obtain ⟨r, e, hf⟩ := hq; cases e
theorem sg_X5_join_13 {L : Nat} {xs : Nat → Int32} {σ : ks_St} {mc ms : Nat} {P : ka_O → ks_St → Prop} {x1 : Int32} {x2 : Int32} {s0 : Int32}  (k2 : (¬ s0 = 0) → ks_W L xs mX5_join rm_X5_join 21 [(0, .ref 17), (1, .int x1), (2, .int x2)] [.int 0] σ mc ms P) (k3 : (s0 = 0) → ks_W L xs mX5_join rm_X5_join 16 [(0, .ref 17), (1, .int x1), (2, .int x2)] [] σ mc ms P) : ks_W L xs mX5_join rm_X5_join 13 [(0, .ref 17), (1, .int x1), (2, .int x2)] [.int s0] σ mc ms P := by
  refine ka_if_ne (tgt := 20) d_X5_join_13 (by decide) rfl (fun c1 => ?_) (fun c1 => ?_)
  · refine ka_iconst (v := 0) d_X5_join_20 rfl (by decide) ?_
    exact (k2 c1)
  · exact (k3 c1)
theorem sg_X5_join_16 {L : Nat} {xs : Nat → Int32} {σ : ks_St} {mc ms : Nat} {P : ka_O → ks_St → Prop} {x1 : Int32} {x2 : Int32}  (k1 : ks_W L xs mX5_join rm_X5_join 21 [(0, .ref 17), (1, .int x1), (2, .int x2)] [.int 1] σ mc ms P) : ks_W L xs mX5_join rm_X5_join 16 [(0, .ref 17), (1, .int x1), (2, .int x2)] [] σ mc ms P := by
  refine ka_iconst (v := 1) d_X5_join_16 rfl (by decide) ?_
  refine ka_goto (q := 21) d_X5_join_17 (by decide) ?_
  exact k1
theorem sg_X5_join_21 {L : Nat} {xs : Nat → Int32} {σ : ks_St} {mc ms : Nat} {P : ka_O → ks_St → Prop} {x1 : Int32} {x2 : Int32} {s0 : Int32}  (k2 : (¬ s0 = 0) → ks_W L xs mX5_join rm_X5_join 51 [(0, .ref 17), (1, .int x1), (2, .int x2)] [.int s0, .ref 17] σ mc ms P) (v3 : (s0 = 0) → vp_in x1 600) (v4 : (s0 = 0) → vp_in x2 600) (k6 : (s0 = 0) → (((sf_ σ 18 x1.toNatClampNeg) + (sf_ σ 18 x2.toNatClampNeg)) ≤ 512) → ks_W L xs mX5_join rm_X5_join 51 [(0, .ref 17), (1, .int x1), (2, .int x2)] [.int s0, .ref 17] σ mc ms P) (k7 : (s0 = 0) → (¬ (((sf_ σ 18 x1.toNatClampNeg) + (sf_ σ 18 x2.toNatClampNeg)) ≤ 512)) → ks_W L xs mX5_join rm_X5_join 52 [(0, .ref 17), (1, .int x1), (2, .int x2)] [.int 1, .int s0, .ref 17] σ mc ms P) : ks_W L xs mX5_join rm_X5_join 21 [(0, .ref 17), (1, .int x1), (2, .int x2)] [.int s0] σ mc ms P := by
  refine ka_istore_n (ls' := [(3, .int s0), (0, .ref 17), (1, .int x1), (2, .int x2)]) d_X5_join_21 rfl rfl (by decide) rfl ?_
  refine ka_aload_n d_X5_join_22 rfl rfl 1 rfl ?_
  refine ka_iload_n d_X5_join_23 rfl rfl 0 rfl ?_
  refine ka_iload_n d_X5_join_24 rfl rfl 0 rfl ?_
  refine ka_if_ne (tgt := 51) d_X5_join_25 (by decide) rfl (fun c1 => ?_) (fun c1 => ?_)
  · refine ka_sub [1, 2, 3] rfl ?_
    exact (k2 c1)
  · refine ka_aload_n d_X5_join_28 rfl rfl 1 rfl ?_
    refine gf_X5_3 d_X5_join_29 rfl fl_X5_7 ?_
    refine ka_iload_n d_X5_join_32 rfl rfl 2 rfl ?_
    refine ks_iald row_18 d_X5_join_33 rfl (v3 c1) ?_
    refine ka_aload_n d_X5_join_34 rfl rfl 1 rfl ?_
    refine gf_X5_3 d_X5_join_35 rfl fl_X5_7 ?_
    refine ka_iload_n d_X5_join_38 rfl rfl 3 rfl ?_
    refine ks_iald row_18 d_X5_join_39 rfl (v4 c1) ?_
    refine ka_iadd d_X5_join_40 rfl ?_
    refine ka_sipush (v := 512) d_X5_join_41 rfl (by decide) ?_
    refine ka_icmp_le (tgt := 51) d_X5_join_44 (by decide) rfl (fun c5 => ?_) (fun c5 => ?_)
    · refine ka_sub [1, 2, 3] rfl ?_
      exact (k6 c1 c5)
    · refine ka_iconst (v := 1) d_X5_join_47 rfl (by decide) ?_
      refine ka_goto (q := 52) d_X5_join_48 (by decide) ?_
      refine ka_sub [1, 2, 3] rfl ?_
      exact (k7 c1 c5)
theorem sg_X5_join_51 {L : Nat} {xs : Nat → Int32} {σ : ks_St} {mc ms : Nat} {P : ka_O → ks_St → Prop} {x1 : Int32} {x2 : Int32} {s1 : Int32}  (k1 : ks_W L xs mX5_join rm_X5_join 52 [(0, .ref 17), (1, .int x1), (2, .int x2)] [.int 0, .int s1, .ref 17] σ mc ms P) : ks_W L xs mX5_join rm_X5_join 51 [(0, .ref 17), (1, .int x1), (2, .int x2)] [.int s1, .ref 17] σ mc ms P := by
  refine ka_iconst (v := 0) d_X5_join_51 rfl (by decide) ?_
  exact k1
theorem sg_X5_join_52 {L : Nat} {xs : Nat → Int32} {σ : ks_St} {mc ms : Nat} {P : ka_O → ks_St → Prop} {x1 : Int32} {x2 : Int32} {s1 : Int32} {s2 : Int32}  (k2 : (¬ (si_ σ 16) = 600) → ks_W L xs mX5_join rm_X5_join 67 [(0, .ref 17), (1, .int x1), (2, .int x2)] [.int 0, .int s2, .int s1, .ref 17] σ mc ms P) (k3 : ((si_ σ 16) = 600) → ks_W L xs mX5_join rm_X5_join 67 [(0, .ref 17), (1, .int x1), (2, .int x2)] [.int 1, .int s2, .int s1, .ref 17] σ mc ms P) : ks_W L xs mX5_join rm_X5_join 52 [(0, .ref 17), (1, .int x1), (2, .int x2)] [.int s2, .int s1, .ref 17] σ mc ms P := by
  refine ka_aload_n d_X5_join_52 rfl rfl 0 rfl ?_
  refine gf_X5_2 d_X5_join_53 rfl fl_X5_53 ?_
  refine ka_sipush (v := 600) d_X5_join_56 rfl (by decide) ?_
  refine ka_icmp_ne (tgt := 66) d_X5_join_59 (by decide) rfl (fun c1 => ?_) (fun c1 => ?_)
  · refine ka_iconst (v := 0) d_X5_join_66 rfl (by decide) ?_
    exact (k2 c1)
  · refine ka_iconst (v := 1) d_X5_join_62 rfl (by decide) ?_
    refine ka_goto (q := 67) d_X5_join_63 (by decide) ?_
    exact (k3 c1)
theorem sg_X5_join_67 {L : Nat} {xs : Nat → Int32} {σ : ks_St} {mc ms : Nat} {P : ka_O → ks_St → Prop} {x1 : Int32} {x2 : Int32} {s1 : Int32} {s2 : Int32} {s3 : Int32}  (k1 : ks_W L xs mX5_join rm_X5_join 68 [(0, .ref 17), (1, .int x1), (2, .int x2)] [.int 0, .int s3, .int s2, .int s1, .ref 17] σ mc ms P) : ks_W L xs mX5_join rm_X5_join 67 [(0, .ref 17), (1, .int x1), (2, .int x2)] [.int s3, .int s2, .int s1, .ref 17] σ mc ms P := by
  refine ka_iconst (v := 0) d_X5_join_67 rfl (by decide) ?_
  exact k1
theorem cs_X5_join_68 {L : Nat} {xs : Nat → Int32} {σ : ks_St} {mc ms : Nat} {P : ka_O → ks_St → Prop} {f : Int32 → ks_St → Prop} {x1 : Int32} {x2 : Int32} {s1 : Int32} {s2 : Int32} {s3 : Int32} {s4 : Int32} (hK : ks_M L xs mX5_throwing rm_X5_throwing [.ref 17, .int s1, .int s2, .int s3, .int s4] σ (pi_ f)) (kr : ∀ r σ', f r σ' → ks_W L xs mX5_join rm_X5_join 71 [(0, .ref 17), (1, .int x1), (2, .int x2)] [.int r] σ' mc ms P) : ks_W L xs mX5_join rm_X5_join 68 [(0, .ref 17), (1, .int x1), (2, .int x2)] [.int s4, .int s3, .int s2, .int s1, .ref 17] σ mc ms P := by
  refine ks_callV (q := 71) (o := 17) (ci := 5) (As := [.int s1, .int s2, .int s3, .int s4]) (st := []) d_X5_join_68 rfl rfl (by decide) rfl rfl lk_X5_56 ⟨by decide, by decide⟩ (Nat.le_of_ble_eq_true rfl) ⟨Nat.le_refl _, Nat.le_refl _⟩ hK (fun v σ' hq => ?_) (fun E σ' hq => ?_)
  · obtain ⟨r, e, hf⟩ := hq; cases e; exact kr r σ' hf
  · obtain ⟨r, e, hf⟩ := hq; cases e
theorem sg_X5_join_71 {L : Nat} {xs : Nat → Int32} {σ : ks_St} {mc ms : Nat} {P : ka_O → ks_St → Prop} {x1 : Int32} {x2 : Int32} {s0 : Int32}  (k2 : (s0 = 0) → ks_W L xs mX5_join rm_X5_join 79 [(0, .ref 17), (1, .int x1), (2, .int x2), (4, .int 0)] [] σ mc ms P) (r3 : (¬ (s0 = 0)) → P (.inl (some (.int 0))) σ) : ks_W L xs mX5_join rm_X5_join 71 [(0, .ref 17), (1, .int x1), (2, .int x2)] [.int s0] σ mc ms P := by
  refine ka_if_eq (tgt := 76) d_X5_join_71 (by decide) rfl (fun c1 => ?_) (fun c1 => ?_)
  · refine ka_iconst (v := 0) d_X5_join_76 rfl (by decide) ?_
    refine ka_istore (ls' := [(4, .int 0), (0, .ref 17), (1, .int x1), (2, .int x2)]) d_X5_join_77 rfl (by decide) rfl ?_
    refine ka_sub [1, 2, 3, 0] rfl ?_
    exact (k2 c1)
  · refine ka_iconst (v := 0) d_X5_join_74 rfl (by decide) ?_
    exact ks_iret (ty := .int) d_X5_join_75 rfl rfl (r3 c1)
theorem sg_X5_join_79 {L : Nat} {xs : Nat → Int32} {σ : ks_St} {mc ms : Nat} {P : ka_O → ks_St → Prop} {x1 : Int32} {x2 : Int32} {x4 : Int32}  (v1 : vp_in x2 600) (k3 : ((sf_ σ 18 x2.toNatClampNeg) ≤ x4) → ks_W L xs mX5_join rm_X5_join 113 [(0, .ref 17), (1, .int x1), (2, .int x2), (4, .int 0)] [] σ mc ms P) (k4 : (¬ ((sf_ σ 18 x2.toNatClampNeg) ≤ x4)) → ks_W L xs mX5_join rm_X5_join 100 [(0, .ref 17), (1, .int x1), (2, .int x2), (4, .int x4)] [.int x4, .int x2, .ref 17, .int x4, .ref 23] σ mc ms P) : ks_W L xs mX5_join rm_X5_join 79 [(0, .ref 17), (1, .int x1), (2, .int x2), (4, .int x4)] [] σ mc ms P := by
  refine ka_iload d_X5_join_79 rfl 3 rfl ?_
  refine ka_aload_n d_X5_join_81 rfl rfl 0 rfl ?_
  refine gf_X5_3 d_X5_join_82 rfl fl_X5_7 ?_
  refine ka_iload_n d_X5_join_85 rfl rfl 2 rfl ?_
  refine ks_iald row_18 d_X5_join_86 rfl v1 ?_
  refine ka_icmp_ge (tgt := 110) d_X5_join_87 (by decide) rfl (fun c2 => ?_) (fun c2 => ?_)
  · refine ka_iconst (v := 0) d_X5_join_110 rfl (by decide) ?_
    refine ka_istore (ls' := [(4, .int 0), (0, .ref 17), (1, .int x1), (2, .int x2)]) d_X5_join_111 rfl (by decide) rfl ?_
    refine ka_sub [1, 2, 3, 0] rfl ?_
    exact (k3 c2)
  · refine ka_aload_n d_X5_join_90 rfl rfl 0 rfl ?_
    refine gf_X5_9 d_X5_join_91 rfl fl_X5_27 ?_
    refine ka_iload d_X5_join_94 rfl 3 rfl ?_
    refine ka_aload_n d_X5_join_96 rfl rfl 0 rfl ?_
    refine ka_iload_n d_X5_join_97 rfl rfl 2 rfl ?_
    refine ka_iload d_X5_join_98 rfl 3 rfl ?_
    exact (k4 c2)
theorem cs_X5_join_100 {L : Nat} {xs : Nat → Int32} {σ : ks_St} {mc ms : Nat} {P : ka_O → ks_St → Prop} {f : Int32 → ks_St → Prop} {x1 : Int32} {x2 : Int32} {x4 : Int32} {s1 : Int32} {s3 : Int32} {s4 : Int32} (hK : ks_M L xs mX5_bitOf rm_X5_bitOf [.ref 17, .int s3, .int s4] σ (pi_ f)) (kr : ∀ r σ', f r σ' → ks_W L xs mX5_join rm_X5_join 103 [(0, .ref 17), (1, .int x1), (2, .int x2), (4, .int x4)] [.int r, .int s1, .ref 23] σ' mc ms P) : ks_W L xs mX5_join rm_X5_join 100 [(0, .ref 17), (1, .int x1), (2, .int x2), (4, .int x4)] [.int s4, .int s3, .ref 17, .int s1, .ref 23] σ mc ms P := by
  refine ks_callV (q := 103) (o := 17) (ci := 5) (As := [.int s3, .int s4]) (st := [.int s1, .ref 23]) d_X5_join_100 rfl rfl (by decide) rfl rfl lk_X5_72 ⟨by decide, by decide⟩ (Nat.le_of_ble_eq_true rfl) ⟨Nat.le_refl _, Nat.le_refl _⟩ hK (fun v σ' hq => ?_) (fun E σ' hq => ?_)
  · obtain ⟨r, e, hf⟩ := hq; cases e; exact kr r σ' hf
  · obtain ⟨r, e, hf⟩ := hq; cases e
theorem sg_X5_join_103 {L : Nat} {xs : Nat → Int32} {σ : ks_St} {mc ms : Nat} {P : ka_O → ks_St → Prop} {x1 : Int32} {x2 : Int32} {x4 : Int32} {s1 : Int32} {s2 : Int32}  (v1 : vp_in s1 1026) (k2 : ks_W L xs mX5_join rm_X5_join 79 [(0, .ref 17), (1, .int x1), (2, .int x2), (4, .int (x4 + 1))] [] (uf_ σ 23 (upd (sf_ σ 23) s1.toNatClampNeg s2)) mc ms P) : ks_W L xs mX5_join rm_X5_join 103 [(0, .ref 17), (1, .int x1), (2, .int x2), (4, .int x4)] [.int s2, .int s1, .ref 23] σ mc ms P := by
  refine ks_iast row_23 d_X5_join_103 rfl v1 ?_
  refine ka_iinc (g := 3) (v := x4 + 1) (ls' := [(4, .int (x4 + 1)), (0, .ref 17), (1, .int x1), (2, .int x2)]) d_X5_join_104 rfl rfl rfl (by decide) rfl ?_
  refine ka_goto (q := 79) d_X5_join_107 (by decide) ?_
  refine ka_sub [1, 2, 3, 0] rfl ?_
  exact k2
theorem sg_X5_join_113 {L : Nat} {xs : Nat → Int32} {σ : ks_St} {mc ms : Nat} {P : ka_O → ks_St → Prop} {x1 : Int32} {x2 : Int32} {x4 : Int32}  (v1 : vp_in x1 600) (v3 : ((sf_ σ 18 x1.toNatClampNeg) ≤ x4) → vp_in x1 600) (v4 : ((sf_ σ 18 x1.toNatClampNeg) ≤ x4) → vp_in x2 600) (k5 : ((sf_ σ 18 x1.toNatClampNeg) ≤ x4) → ks_W L xs mX5_join rm_X5_join 166 [] [.int ((sf_ σ 18 x1.toNatClampNeg) + (sf_ σ 18 x2.toNatClampNeg)), .int 0, .ref 17] σ mc ms P) (v6 : (¬ ((sf_ σ 18 x1.toNatClampNeg) ≤ x4)) → vp_in x2 600) (k7 : (¬ ((sf_ σ 18 x1.toNatClampNeg) ≤ x4)) → ks_W L xs mX5_join rm_X5_join 141 [(0, .ref 17), (1, .int x1), (2, .int x2), (4, .int x4)] [.int x4, .int x1, .ref 17, .int ((sf_ σ 18 x2.toNatClampNeg) + x4), .ref 23] σ mc ms P) : ks_W L xs mX5_join rm_X5_join 113 [(0, .ref 17), (1, .int x1), (2, .int x2), (4, .int x4)] [] σ mc ms P := by
  refine ka_iload d_X5_join_113 rfl 3 rfl ?_
  refine ka_aload_n d_X5_join_115 rfl rfl 0 rfl ?_
  refine gf_X5_3 d_X5_join_116 rfl fl_X5_7 ?_
  refine ka_iload_n d_X5_join_119 rfl rfl 1 rfl ?_
  refine ks_iald row_18 d_X5_join_120 rfl v1 ?_
  refine ka_icmp_ge (tgt := 151) d_X5_join_121 (by decide) rfl (fun c2 => ?_) (fun c2 => ?_)
  · refine ka_aload_n d_X5_join_151 rfl rfl 0 rfl ?_
    refine ka_iconst (v := 0) d_X5_join_152 rfl (by decide) ?_
    refine ka_aload_n d_X5_join_153 rfl rfl 0 rfl ?_
    refine gf_X5_3 d_X5_join_154 rfl fl_X5_7 ?_
    refine ka_iload_n d_X5_join_157 rfl rfl 1 rfl ?_
    refine ks_iald row_18 d_X5_join_158 rfl (v3 c2) ?_
    refine ka_aload_n d_X5_join_159 rfl rfl 0 rfl ?_
    refine gf_X5_3 d_X5_join_160 rfl fl_X5_7 ?_
    refine ka_iload_n d_X5_join_163 rfl rfl 2 rfl ?_
    refine ks_iald row_18 d_X5_join_164 rfl (v4 c2) ?_
    refine ka_iadd d_X5_join_165 rfl ?_
    refine ka_sub [] rfl ?_
    exact (k5 c2)
  · refine ka_aload_n d_X5_join_124 rfl rfl 0 rfl ?_
    refine gf_X5_9 d_X5_join_125 rfl fl_X5_27 ?_
    refine ka_aload_n d_X5_join_128 rfl rfl 0 rfl ?_
    refine gf_X5_3 d_X5_join_129 rfl fl_X5_7 ?_
    refine ka_iload_n d_X5_join_132 rfl rfl 2 rfl ?_
    refine ks_iald row_18 d_X5_join_133 rfl (v6 c2) ?_
    refine ka_iload d_X5_join_134 rfl 3 rfl ?_
    refine ka_iadd d_X5_join_136 rfl ?_
    refine ka_aload_n d_X5_join_137 rfl rfl 0 rfl ?_
    refine ka_iload_n d_X5_join_138 rfl rfl 1 rfl ?_
    refine ka_iload d_X5_join_139 rfl 3 rfl ?_
    exact (k7 c2)
theorem cs_X5_join_141 {L : Nat} {xs : Nat → Int32} {σ : ks_St} {mc ms : Nat} {P : ka_O → ks_St → Prop} {f : Int32 → ks_St → Prop} {x1 : Int32} {x2 : Int32} {x4 : Int32} {s1 : Int32} {s3 : Int32} {s4 : Int32} (hK : ks_M L xs mX5_bitOf rm_X5_bitOf [.ref 17, .int s3, .int s4] σ (pi_ f)) (kr : ∀ r σ', f r σ' → ks_W L xs mX5_join rm_X5_join 144 [(0, .ref 17), (1, .int x1), (2, .int x2), (4, .int x4)] [.int r, .int s1, .ref 23] σ' mc ms P) : ks_W L xs mX5_join rm_X5_join 141 [(0, .ref 17), (1, .int x1), (2, .int x2), (4, .int x4)] [.int s4, .int s3, .ref 17, .int s1, .ref 23] σ mc ms P := by
  refine ks_callV (q := 144) (o := 17) (ci := 5) (As := [.int s3, .int s4]) (st := [.int s1, .ref 23]) d_X5_join_141 rfl rfl (by decide) rfl rfl lk_X5_72 ⟨by decide, by decide⟩ (Nat.le_of_ble_eq_true rfl) ⟨Nat.le_refl _, Nat.le_refl _⟩ hK (fun v σ' hq => ?_) (fun E σ' hq => ?_)
  · obtain ⟨r, e, hf⟩ := hq; cases e; exact kr r σ' hf
  · obtain ⟨r, e, hf⟩ := hq; cases e
theorem sg_X5_join_144 {L : Nat} {xs : Nat → Int32} {σ : ks_St} {mc ms : Nat} {P : ka_O → ks_St → Prop} {x1 : Int32} {x2 : Int32} {x4 : Int32} {s1 : Int32} {s2 : Int32}  (v1 : vp_in s1 1026) (k2 : ks_W L xs mX5_join rm_X5_join 113 [(0, .ref 17), (1, .int x1), (2, .int x2), (4, .int (x4 + 1))] [] (uf_ σ 23 (upd (sf_ σ 23) s1.toNatClampNeg s2)) mc ms P) : ks_W L xs mX5_join rm_X5_join 144 [(0, .ref 17), (1, .int x1), (2, .int x2), (4, .int x4)] [.int s2, .int s1, .ref 23] σ mc ms P := by
  refine ks_iast row_23 d_X5_join_144 rfl v1 ?_
  refine ka_iinc (g := 3) (v := x4 + 1) (ls' := [(4, .int (x4 + 1)), (0, .ref 17), (1, .int x1), (2, .int x2)]) d_X5_join_145 rfl rfl rfl (by decide) rfl ?_
  refine ka_goto (q := 113) d_X5_join_148 (by decide) ?_
  refine ka_sub [1, 2, 3, 0] rfl ?_
  exact k2
theorem cs_X5_join_166 {L : Nat} {xs : Nat → Int32} {σ : ks_St} {mc ms : Nat} {P : ka_O → ks_St → Prop} {f : Int32 → ks_St → Prop} {s1 : Int32} {s2 : Int32} (hK : ks_M L xs mX5_keep rm_X5_keep [.ref 17, .int s1, .int s2] σ (pi_ f)) (kr : ∀ r σ', f r σ' → ks_W L xs mX5_join rm_X5_join 169 [] [.int r] σ' mc ms P) : ks_W L xs mX5_join rm_X5_join 166 [] [.int s2, .int s1, .ref 17] σ mc ms P := by
  refine ks_callV (q := 169) (o := 17) (ci := 5) (As := [.int s1, .int s2]) (st := []) d_X5_join_166 rfl rfl (by decide) rfl rfl lk_X5_126 ⟨by decide, by decide⟩ (Nat.le_of_ble_eq_true rfl) ⟨Nat.le_refl _, Nat.le_refl _⟩ hK (fun v σ' hq => ?_) (fun E σ' hq => ?_)
  · obtain ⟨r, e, hf⟩ := hq; cases e; exact kr r σ' hf
  · obtain ⟨r, e, hf⟩ := hq; cases e
theorem sg_X5_join_169 {L : Nat} {xs : Nat → Int32} {σ : ks_St} {mc ms : Nat} {P : ka_O → ks_St → Prop} {s0 : Int32}  (r1 : P (.inl (some (.int s0))) σ) : ks_W L xs mX5_join rm_X5_join 169 [] [.int s0] σ mc ms P := by
  exact ks_iret (ty := .int) d_X5_join_169 rfl rfl r1
theorem d_X5_extend_0 : decode cX5_extend 0 = .ok (.aload_n 0, 1) := by decide +kernel
theorem d_X5_extend_1 : decode cX5_extend 1 = .ok (.iload_n 1, 1) := by decide +kernel
theorem d_X5_extend_2 : decode cX5_extend 2 = .ok (.invokevirtual 64, 3) := by decide +kernel
theorem d_X5_extend_5 : decode cX5_extend 5 = .ok (.ifCond .ne 7, 3) := by decide +kernel
theorem d_X5_extend_8 : decode cX5_extend 8 = .ok (.iconst 1, 1) := by decide +kernel
theorem d_X5_extend_9 : decode cX5_extend 9 = .ok (.goto 4, 3) := by decide +kernel
theorem d_X5_extend_12 : decode cX5_extend 12 = .ok (.iconst 0, 1) := by decide +kernel
theorem d_X5_extend_13 : decode cX5_extend 13 = .ok (.istore 4, 2) := by decide +kernel
theorem d_X5_extend_15 : decode cX5_extend 15 = .ok (.aload_n 0, 1) := by decide +kernel
theorem d_X5_extend_16 : decode cX5_extend 16 = .ok (.iload 4, 2) := by decide +kernel
theorem d_X5_extend_18 : decode cX5_extend 18 = .ok (.iload 4, 2) := by decide +kernel
theorem d_X5_extend_20 : decode cX5_extend 20 = .ok (.ifCond .ne 24, 3) := by decide +kernel
theorem d_X5_extend_23 : decode cX5_extend 23 = .ok (.iload_n 2, 1) := by decide +kernel
theorem d_X5_extend_24 : decode cX5_extend 24 = .ok (.aload_n 0, 1) := by decide +kernel
theorem d_X5_extend_25 : decode cX5_extend 25 = .ok (.getfield 7, 3) := by decide +kernel
theorem d_X5_extend_28 : decode cX5_extend 28 = .ok (.iload_n 1, 1) := by decide +kernel
theorem d_X5_extend_29 : decode cX5_extend 29 = .ok (.iaload, 1) := by decide +kernel
theorem d_X5_extend_30 : decode cX5_extend 30 = .ok (.if_icmp .lt 10, 3) := by decide +kernel
theorem d_X5_extend_33 : decode cX5_extend 33 = .ok (.iload_n 2, 1) := by decide +kernel
theorem d_X5_extend_34 : decode cX5_extend 34 = .ok (.sipush 512, 3) := by decide +kernel
theorem d_X5_extend_37 : decode cX5_extend 37 = .ok (.if_icmp .le 7, 3) := by decide +kernel
theorem d_X5_extend_40 : decode cX5_extend 40 = .ok (.iconst 1, 1) := by decide +kernel
theorem d_X5_extend_41 : decode cX5_extend 41 = .ok (.goto 4, 3) := by decide +kernel
theorem d_X5_extend_44 : decode cX5_extend 44 = .ok (.iconst 0, 1) := by decide +kernel
theorem d_X5_extend_45 : decode cX5_extend 45 = .ok (.aload_n 0, 1) := by decide +kernel
theorem d_X5_extend_46 : decode cX5_extend 46 = .ok (.getfield 53, 3) := by decide +kernel
theorem d_X5_extend_49 : decode cX5_extend 49 = .ok (.sipush 600, 3) := by decide +kernel
theorem d_X5_extend_52 : decode cX5_extend 52 = .ok (.if_icmp .ne 7, 3) := by decide +kernel
theorem d_X5_extend_55 : decode cX5_extend 55 = .ok (.iconst 1, 1) := by decide +kernel
theorem d_X5_extend_56 : decode cX5_extend 56 = .ok (.goto 4, 3) := by decide +kernel
theorem d_X5_extend_59 : decode cX5_extend 59 = .ok (.iconst 0, 1) := by decide +kernel
theorem d_X5_extend_60 : decode cX5_extend 60 = .ok (.iconst 0, 1) := by decide +kernel
theorem d_X5_extend_61 : decode cX5_extend 61 = .ok (.invokevirtual 56, 3) := by decide +kernel
theorem d_X5_extend_64 : decode cX5_extend 64 = .ok (.ifCond .eq 5, 3) := by decide +kernel
theorem d_X5_extend_67 : decode cX5_extend 67 = .ok (.iconst 0, 1) := by decide +kernel
theorem d_X5_extend_68 : decode cX5_extend 68 = .ok (.ireturn, 1) := by decide +kernel
theorem d_X5_extend_69 : decode cX5_extend 69 = .ok (.iload_n 3, 1) := by decide +kernel
theorem d_X5_extend_70 : decode cX5_extend 70 = .ok (.ifCond .eq 19, 3) := by decide +kernel
theorem d_X5_extend_73 : decode cX5_extend 73 = .ok (.aload_n 0, 1) := by decide +kernel
theorem d_X5_extend_74 : decode cX5_extend 74 = .ok (.iload_n 1, 1) := by decide +kernel
theorem d_X5_extend_75 : decode cX5_extend 75 = .ok (.aload_n 0, 1) := by decide +kernel
theorem d_X5_extend_76 : decode cX5_extend 76 = .ok (.getfield 7, 3) := by decide +kernel
theorem d_X5_extend_79 : decode cX5_extend 79 = .ok (.iload_n 1, 1) := by decide +kernel
theorem d_X5_extend_80 : decode cX5_extend 80 = .ok (.iaload, 1) := by decide +kernel
theorem d_X5_extend_81 : decode cX5_extend 81 = .ok (.iconst 1, 1) := by decide +kernel
theorem d_X5_extend_82 : decode cX5_extend 82 = .ok (.isub, 1) := by decide +kernel
theorem d_X5_extend_83 : decode cX5_extend 83 = .ok (.invokevirtual 72, 3) := by decide +kernel
theorem d_X5_extend_86 : decode cX5_extend 86 = .ok (.goto 4, 3) := by decide +kernel
theorem d_X5_extend_89 : decode cX5_extend 89 = .ok (.iconst 0, 1) := by decide +kernel
theorem d_X5_extend_90 : decode cX5_extend 90 = .ok (.istore 5, 2) := by decide +kernel
theorem d_X5_extend_92 : decode cX5_extend 92 = .ok (.iconst 0, 1) := by decide +kernel
theorem d_X5_extend_93 : decode cX5_extend 93 = .ok (.istore 6, 2) := by decide +kernel
theorem d_X5_extend_95 : decode cX5_extend 95 = .ok (.iload 6, 2) := by decide +kernel
theorem d_X5_extend_97 : decode cX5_extend 97 = .ok (.iload_n 2, 1) := by decide +kernel
theorem d_X5_extend_98 : decode cX5_extend 98 = .ok (.if_icmp .ge 39, 3) := by decide +kernel
theorem d_X5_extend_101 : decode cX5_extend 101 = .ok (.aload_n 0, 1) := by decide +kernel
theorem d_X5_extend_102 : decode cX5_extend 102 = .ok (.getfield 27, 3) := by decide +kernel
theorem d_X5_extend_105 : decode cX5_extend 105 = .ok (.iload 6, 2) := by decide +kernel
theorem d_X5_extend_107 : decode cX5_extend 107 = .ok (.iload 6, 2) := by decide +kernel
theorem d_X5_extend_109 : decode cX5_extend 109 = .ok (.aload_n 0, 1) := by decide +kernel
theorem d_X5_extend_110 : decode cX5_extend 110 = .ok (.getfield 7, 3) := by decide +kernel
theorem d_X5_extend_113 : decode cX5_extend 113 = .ok (.iload_n 1, 1) := by decide +kernel
theorem d_X5_extend_114 : decode cX5_extend 114 = .ok (.iaload, 1) := by decide +kernel
theorem d_X5_extend_115 : decode cX5_extend 115 = .ok (.if_icmp .ge 13, 3) := by decide +kernel
theorem d_X5_extend_118 : decode cX5_extend 118 = .ok (.aload_n 0, 1) := by decide +kernel
theorem d_X5_extend_119 : decode cX5_extend 119 = .ok (.iload_n 1, 1) := by decide +kernel
theorem d_X5_extend_120 : decode cX5_extend 120 = .ok (.iload 6, 2) := by decide +kernel
theorem d_X5_extend_122 : decode cX5_extend 122 = .ok (.invokevirtual 72, 3) := by decide +kernel
theorem d_X5_extend_125 : decode cX5_extend 125 = .ok (.goto 5, 3) := by decide +kernel
theorem d_X5_extend_128 : decode cX5_extend 128 = .ok (.iload 5, 2) := by decide +kernel
theorem d_X5_extend_130 : decode cX5_extend 130 = .ok (.iastore, 1) := by decide +kernel
theorem d_X5_extend_131 : decode cX5_extend 131 = .ok (.iinc 6 1, 3) := by decide +kernel
theorem d_X5_extend_134 : decode cX5_extend 134 = .ok (.goto (-39), 3) := by decide +kernel
theorem d_X5_extend_137 : decode cX5_extend 137 = .ok (.aload_n 0, 1) := by decide +kernel
theorem d_X5_extend_138 : decode cX5_extend 138 = .ok (.iconst 0, 1) := by decide +kernel
theorem d_X5_extend_139 : decode cX5_extend 139 = .ok (.iload_n 2, 1) := by decide +kernel
theorem d_X5_extend_140 : decode cX5_extend 140 = .ok (.invokevirtual 126, 3) := by decide +kernel
theorem d_X5_extend_143 : decode cX5_extend 143 = .ok (.ireturn, 1) := by decide +kernel
theorem sg_X5_extend_0 {L : Nat} {xs : Nat → Int32} {σ : ks_St} {mc ms : Nat} {P : ka_O → ks_St → Prop} {x1 : Int32} {x2 : Int32} {x3 : Int32}  (k1 : ks_W L xs mX5_extend rm_X5_extend 2 [(0, .ref 17), (1, .int x1), (2, .int x2), (3, .int x3)] [.int x1, .ref 17] σ mc ms P) : ks_W L xs mX5_extend rm_X5_extend 0 [(0, .ref 17), (1, .int x1), (2, .int x2), (3, .int x3)] [] σ mc ms P := by
  refine ka_aload_n d_X5_extend_0 rfl rfl 0 rfl ?_
  refine ka_iload_n d_X5_extend_1 rfl rfl 1 rfl ?_
  exact k1
theorem cs_X5_extend_2 {L : Nat} {xs : Nat → Int32} {σ : ks_St} {mc ms : Nat} {P : ka_O → ks_St → Prop} {f : Int32 → ks_St → Prop} {x1 : Int32} {x2 : Int32} {x3 : Int32} {s1 : Int32} (hK : ks_M L xs mX5_isWord rm_X5_isWord [.ref 17, .int s1] σ (pi_ f)) (kr : ∀ r σ', f r σ' → ks_W L xs mX5_extend rm_X5_extend 5 [(0, .ref 17), (1, .int x1), (2, .int x2), (3, .int x3)] [.int r] σ' mc ms P) : ks_W L xs mX5_extend rm_X5_extend 2 [(0, .ref 17), (1, .int x1), (2, .int x2), (3, .int x3)] [.int s1, .ref 17] σ mc ms P := by
  refine ks_callV (q := 5) (o := 17) (ci := 5) (As := [.int s1]) (st := []) d_X5_extend_2 rfl rfl (by decide) rfl rfl lk_X5_64 ⟨by decide, by decide⟩ (Nat.le_of_ble_eq_true rfl) ⟨Nat.le_refl _, Nat.le_refl _⟩ hK (fun v σ' hq => ?_) (fun E σ' hq => ?_)
  · obtain ⟨r, e, hf⟩ := hq; cases e; exact kr r σ' hf
  · obtain ⟨r, e, hf⟩ := hq; cases e
theorem sg_X5_extend_5 {L : Nat} {xs : Nat → Int32} {σ : ks_St} {mc ms : Nat} {P : ka_O → ks_St → Prop} {x1 : Int32} {x2 : Int32} {x3 : Int32} {s0 : Int32}  (k2 : (¬ s0 = 0) → ks_W L xs mX5_extend rm_X5_extend 13 [(0, .ref 17), (1, .int x1), (2, .int x2), (3, .int x3)] [.int 0] σ mc ms P) (k3 : (s0 = 0) → ks_W L xs mX5_extend rm_X5_extend 13 [(0, .ref 17), (1, .int x1), (2, .int x2), (3, .int x3)] [.int 1] σ mc ms P) : ks_W L xs mX5_extend rm_X5_extend 5 [(0, .ref 17), (1, .int x1), (2, .int x2), (3, .int x3)] [.int s0] σ mc ms P := by
  refine ka_if_ne (tgt := 12) d_X5_extend_5 (by decide) rfl (fun c1 => ?_) (fun c1 => ?_)
  · refine ka_iconst (v := 0) d_X5_extend_12 rfl (by decide) ?_
    exact (k2 c1)
  · refine ka_iconst (v := 1) d_X5_extend_8 rfl (by decide) ?_
    refine ka_goto (q := 13) d_X5_extend_9 (by decide) ?_
    exact (k3 c1)
theorem sg_X5_extend_13 {L : Nat} {xs : Nat → Int32} {σ : ks_St} {mc ms : Nat} {P : ka_O → ks_St → Prop} {x1 : Int32} {x2 : Int32} {x3 : Int32} {s0 : Int32}  (k2 : (¬ s0 = 0) → ks_W L xs mX5_extend rm_X5_extend 44 [(0, .ref 17), (1, .int x1), (2, .int x2), (3, .int x3)] [.int s0, .ref 17] σ mc ms P) (v3 : (s0 = 0) → vp_in x1 600) (k5 : (s0 = 0) → (x2 < (sf_ σ 18 x1.toNatClampNeg)) → ks_W L xs mX5_extend rm_X5_extend 40 [(0, .ref 17), (1, .int x1), (2, .int x2), (3, .int x3)] [.int s0, .ref 17] σ mc ms P) (k7 : (s0 = 0) → (¬ (x2 < (sf_ σ 18 x1.toNatClampNeg))) → (x2 ≤ 512) → ks_W L xs mX5_extend rm_X5_extend 44 [(0, .ref 17), (1, .int x1), (2, .int x2), (3, .int x3)] [.int s0, .ref 17] σ mc ms P) (k8 : (s0 = 0) → (¬ (x2 < (sf_ σ 18 x1.toNatClampNeg))) → (¬ (x2 ≤ 512)) → ks_W L xs mX5_extend rm_X5_extend 40 [(0, .ref 17), (1, .int x1), (2, .int x2), (3, .int x3)] [.int s0, .ref 17] σ mc ms P) : ks_W L xs mX5_extend rm_X5_extend 13 [(0, .ref 17), (1, .int x1), (2, .int x2), (3, .int x3)] [.int s0] σ mc ms P := by
  refine ka_istore (ls' := [(4, .int s0), (0, .ref 17), (1, .int x1), (2, .int x2), (3, .int x3)]) d_X5_extend_13 rfl (by decide) rfl ?_
  refine ka_aload_n d_X5_extend_15 rfl rfl 1 rfl ?_
  refine ka_iload d_X5_extend_16 rfl 0 rfl ?_
  refine ka_iload d_X5_extend_18 rfl 0 rfl ?_
  refine ka_if_ne (tgt := 44) d_X5_extend_20 (by decide) rfl (fun c1 => ?_) (fun c1 => ?_)
  · refine ka_sub [1, 2, 3, 4] rfl ?_
    exact (k2 c1)
  · refine ka_iload_n d_X5_extend_23 rfl rfl 3 rfl ?_
    refine ka_aload_n d_X5_extend_24 rfl rfl 1 rfl ?_
    refine gf_X5_3 d_X5_extend_25 rfl fl_X5_7 ?_
    refine ka_iload_n d_X5_extend_28 rfl rfl 2 rfl ?_
    refine ks_iald row_18 d_X5_extend_29 rfl (v3 c1) ?_
    refine ka_icmp_lt (tgt := 40) d_X5_extend_30 (by decide) rfl (fun c4 => ?_) (fun c4 => ?_)
    · refine ka_sub [1, 2, 3, 4] rfl ?_
      exact (k5 c1 c4)
    · refine ka_iload_n d_X5_extend_33 rfl rfl 3 rfl ?_
      refine ka_sipush (v := 512) d_X5_extend_34 rfl (by decide) ?_
      refine ka_icmp_le (tgt := 44) d_X5_extend_37 (by decide) rfl (fun c6 => ?_) (fun c6 => ?_)
      · refine ka_sub [1, 2, 3, 4] rfl ?_
        exact (k7 c1 c4 c6)
      · refine ka_sub [1, 2, 3, 4] rfl ?_
        exact (k8 c1 c4 c6)
theorem sg_X5_extend_40 {L : Nat} {xs : Nat → Int32} {σ : ks_St} {mc ms : Nat} {P : ka_O → ks_St → Prop} {x1 : Int32} {x2 : Int32} {x3 : Int32} {s1 : Int32}  (k1 : ks_W L xs mX5_extend rm_X5_extend 45 [(0, .ref 17), (1, .int x1), (2, .int x2), (3, .int x3)] [.int 1, .int s1, .ref 17] σ mc ms P) : ks_W L xs mX5_extend rm_X5_extend 40 [(0, .ref 17), (1, .int x1), (2, .int x2), (3, .int x3)] [.int s1, .ref 17] σ mc ms P := by
  refine ka_iconst (v := 1) d_X5_extend_40 rfl (by decide) ?_
  refine ka_goto (q := 45) d_X5_extend_41 (by decide) ?_
  exact k1
theorem sg_X5_extend_44 {L : Nat} {xs : Nat → Int32} {σ : ks_St} {mc ms : Nat} {P : ka_O → ks_St → Prop} {x1 : Int32} {x2 : Int32} {x3 : Int32} {s1 : Int32}  (k1 : ks_W L xs mX5_extend rm_X5_extend 45 [(0, .ref 17), (1, .int x1), (2, .int x2), (3, .int x3)] [.int 0, .int s1, .ref 17] σ mc ms P) : ks_W L xs mX5_extend rm_X5_extend 44 [(0, .ref 17), (1, .int x1), (2, .int x2), (3, .int x3)] [.int s1, .ref 17] σ mc ms P := by
  refine ka_iconst (v := 0) d_X5_extend_44 rfl (by decide) ?_
  exact k1
theorem sg_X5_extend_45 {L : Nat} {xs : Nat → Int32} {σ : ks_St} {mc ms : Nat} {P : ka_O → ks_St → Prop} {x1 : Int32} {x2 : Int32} {x3 : Int32} {s1 : Int32} {s2 : Int32}  (k2 : (¬ (si_ σ 16) = 600) → ks_W L xs mX5_extend rm_X5_extend 60 [(0, .ref 17), (1, .int x1), (2, .int x2), (3, .int x3)] [.int 0, .int s2, .int s1, .ref 17] σ mc ms P) (k3 : ((si_ σ 16) = 600) → ks_W L xs mX5_extend rm_X5_extend 60 [(0, .ref 17), (1, .int x1), (2, .int x2), (3, .int x3)] [.int 1, .int s2, .int s1, .ref 17] σ mc ms P) : ks_W L xs mX5_extend rm_X5_extend 45 [(0, .ref 17), (1, .int x1), (2, .int x2), (3, .int x3)] [.int s2, .int s1, .ref 17] σ mc ms P := by
  refine ka_aload_n d_X5_extend_45 rfl rfl 0 rfl ?_
  refine gf_X5_2 d_X5_extend_46 rfl fl_X5_53 ?_
  refine ka_sipush (v := 600) d_X5_extend_49 rfl (by decide) ?_
  refine ka_icmp_ne (tgt := 59) d_X5_extend_52 (by decide) rfl (fun c1 => ?_) (fun c1 => ?_)
  · refine ka_iconst (v := 0) d_X5_extend_59 rfl (by decide) ?_
    exact (k2 c1)
  · refine ka_iconst (v := 1) d_X5_extend_55 rfl (by decide) ?_
    refine ka_goto (q := 60) d_X5_extend_56 (by decide) ?_
    exact (k3 c1)
theorem sg_X5_extend_60 {L : Nat} {xs : Nat → Int32} {σ : ks_St} {mc ms : Nat} {P : ka_O → ks_St → Prop} {x1 : Int32} {x2 : Int32} {x3 : Int32} {s1 : Int32} {s2 : Int32} {s3 : Int32}  (k1 : ks_W L xs mX5_extend rm_X5_extend 61 [(0, .ref 17), (1, .int x1), (2, .int x2), (3, .int x3)] [.int 0, .int s3, .int s2, .int s1, .ref 17] σ mc ms P) : ks_W L xs mX5_extend rm_X5_extend 60 [(0, .ref 17), (1, .int x1), (2, .int x2), (3, .int x3)] [.int s3, .int s2, .int s1, .ref 17] σ mc ms P := by
  refine ka_iconst (v := 0) d_X5_extend_60 rfl (by decide) ?_
  exact k1
theorem cs_X5_extend_61 {L : Nat} {xs : Nat → Int32} {σ : ks_St} {mc ms : Nat} {P : ka_O → ks_St → Prop} {f : Int32 → ks_St → Prop} {x1 : Int32} {x2 : Int32} {x3 : Int32} {s1 : Int32} {s2 : Int32} {s3 : Int32} {s4 : Int32} (hK : ks_M L xs mX5_throwing rm_X5_throwing [.ref 17, .int s1, .int s2, .int s3, .int s4] σ (pi_ f)) (kr : ∀ r σ', f r σ' → ks_W L xs mX5_extend rm_X5_extend 64 [(0, .ref 17), (1, .int x1), (2, .int x2), (3, .int x3)] [.int r] σ' mc ms P) : ks_W L xs mX5_extend rm_X5_extend 61 [(0, .ref 17), (1, .int x1), (2, .int x2), (3, .int x3)] [.int s4, .int s3, .int s2, .int s1, .ref 17] σ mc ms P := by
  refine ks_callV (q := 64) (o := 17) (ci := 5) (As := [.int s1, .int s2, .int s3, .int s4]) (st := []) d_X5_extend_61 rfl rfl (by decide) rfl rfl lk_X5_56 ⟨by decide, by decide⟩ (Nat.le_of_ble_eq_true rfl) ⟨Nat.le_refl _, Nat.le_refl _⟩ hK (fun v σ' hq => ?_) (fun E σ' hq => ?_)
  · obtain ⟨r, e, hf⟩ := hq; cases e; exact kr r σ' hf
  · obtain ⟨r, e, hf⟩ := hq; cases e
theorem sg_X5_extend_64 {L : Nat} {xs : Nat → Int32} {σ : ks_St} {mc ms : Nat} {P : ka_O → ks_St → Prop} {x1 : Int32} {x2 : Int32} {x3 : Int32} {s0 : Int32}  (k3 : (s0 = 0) → (x3 = 0) → ks_W L xs mX5_extend rm_X5_extend 90 [(0, .ref 17), (1, .int x1), (2, .int x2)] [.int 0] σ mc ms P) (v4 : (s0 = 0) → (¬ (x3 = 0)) → vp_in x1 600) (k5 : (s0 = 0) → (¬ (x3 = 0)) → ks_W L xs mX5_extend rm_X5_extend 83 [(0, .ref 17), (1, .int x1), (2, .int x2)] [.int ((sf_ σ 18 x1.toNatClampNeg) - 1), .int x1, .ref 17] σ mc ms P) (r6 : (¬ (s0 = 0)) → P (.inl (some (.int 0))) σ) : ks_W L xs mX5_extend rm_X5_extend 64 [(0, .ref 17), (1, .int x1), (2, .int x2), (3, .int x3)] [.int s0] σ mc ms P := by
  refine ka_if_eq (tgt := 69) d_X5_extend_64 (by decide) rfl (fun c1 => ?_) (fun c1 => ?_)
  · refine ka_iload_n d_X5_extend_69 rfl rfl 3 rfl ?_
    refine ka_if_eq (tgt := 89) d_X5_extend_70 (by decide) rfl (fun c2 => ?_) (fun c2 => ?_)
    · refine ka_iconst (v := 0) d_X5_extend_89 rfl (by decide) ?_
      refine ka_sub [0, 1, 2] rfl ?_
      exact (k3 c1 c2)
    · refine ka_aload_n d_X5_extend_73 rfl rfl 0 rfl ?_
      refine ka_iload_n d_X5_extend_74 rfl rfl 1 rfl ?_
      refine ka_aload_n d_X5_extend_75 rfl rfl 0 rfl ?_
      refine gf_X5_3 d_X5_extend_76 rfl fl_X5_7 ?_
      refine ka_iload_n d_X5_extend_79 rfl rfl 1 rfl ?_
      refine ks_iald row_18 d_X5_extend_80 rfl (v4 c1 c2) ?_
      refine ka_iconst (v := 1) d_X5_extend_81 rfl (by decide) ?_
      refine ka_isub d_X5_extend_82 rfl ?_
      refine ka_sub [0, 1, 2] rfl ?_
      exact (k5 c1 c2)
  · refine ka_iconst (v := 0) d_X5_extend_67 rfl (by decide) ?_
    exact ks_iret (ty := .int) d_X5_extend_68 rfl rfl (r6 c1)
theorem cs_X5_extend_83 {L : Nat} {xs : Nat → Int32} {σ : ks_St} {mc ms : Nat} {P : ka_O → ks_St → Prop} {f : Int32 → ks_St → Prop} {x1 : Int32} {x2 : Int32} {s1 : Int32} {s2 : Int32} (hK : ks_M L xs mX5_bitOf rm_X5_bitOf [.ref 17, .int s1, .int s2] σ (pi_ f)) (kr : ∀ r σ', f r σ' → ks_W L xs mX5_extend rm_X5_extend 86 [(0, .ref 17), (1, .int x1), (2, .int x2)] [.int r] σ' mc ms P) : ks_W L xs mX5_extend rm_X5_extend 83 [(0, .ref 17), (1, .int x1), (2, .int x2)] [.int s2, .int s1, .ref 17] σ mc ms P := by
  refine ks_callV (q := 86) (o := 17) (ci := 5) (As := [.int s1, .int s2]) (st := []) d_X5_extend_83 rfl rfl (by decide) rfl rfl lk_X5_72 ⟨by decide, by decide⟩ (Nat.le_of_ble_eq_true rfl) ⟨Nat.le_refl _, Nat.le_refl _⟩ hK (fun v σ' hq => ?_) (fun E σ' hq => ?_)
  · obtain ⟨r, e, hf⟩ := hq; cases e; exact kr r σ' hf
  · obtain ⟨r, e, hf⟩ := hq; cases e
theorem sg_X5_extend_86 {L : Nat} {xs : Nat → Int32} {σ : ks_St} {mc ms : Nat} {P : ka_O → ks_St → Prop} {x1 : Int32} {x2 : Int32} {s0 : Int32}  (k1 : ks_W L xs mX5_extend rm_X5_extend 90 [(0, .ref 17), (1, .int x1), (2, .int x2)] [.int s0] σ mc ms P) : ks_W L xs mX5_extend rm_X5_extend 86 [(0, .ref 17), (1, .int x1), (2, .int x2)] [.int s0] σ mc ms P := by
  refine ka_goto (q := 90) d_X5_extend_86 (by decide) ?_
  exact k1
theorem sg_X5_extend_90 {L : Nat} {xs : Nat → Int32} {σ : ks_St} {mc ms : Nat} {P : ka_O → ks_St → Prop} {x1 : Int32} {x2 : Int32} {s0 : Int32}  (k1 : ks_W L xs mX5_extend rm_X5_extend 95 [(0, .ref 17), (1, .int x1), (2, .int x2), (5, .int s0), (6, .int 0)] [] σ mc ms P) : ks_W L xs mX5_extend rm_X5_extend 90 [(0, .ref 17), (1, .int x1), (2, .int x2)] [.int s0] σ mc ms P := by
  refine ka_istore (ls' := [(5, .int s0), (0, .ref 17), (1, .int x1), (2, .int x2)]) d_X5_extend_90 rfl (by decide) rfl ?_
  refine ka_iconst (v := 0) d_X5_extend_92 rfl (by decide) ?_
  refine ka_istore (ls' := [(6, .int 0), (5, .int s0), (0, .ref 17), (1, .int x1), (2, .int x2)]) d_X5_extend_93 rfl (by decide) rfl ?_
  refine ka_sub [2, 3, 4, 1, 0] rfl ?_
  exact k1
theorem sg_X5_extend_95 {L : Nat} {xs : Nat → Int32} {σ : ks_St} {mc ms : Nat} {P : ka_O → ks_St → Prop} {x1 : Int32} {x2 : Int32} {x5 : Int32} {x6 : Int32}  (k2 : (x2 ≤ x6) → ks_W L xs mX5_extend rm_X5_extend 140 [] [.int x2, .int 0, .ref 17] σ mc ms P) (v3 : (¬ (x2 ≤ x6)) → vp_in x1 600) (k5 : (¬ (x2 ≤ x6)) → ((sf_ σ 18 x1.toNatClampNeg) ≤ x6) → ks_W L xs mX5_extend rm_X5_extend 130 [(0, .ref 17), (1, .int x1), (2, .int x2), (5, .int x5), (6, .int x6)] [.int x5, .int x6, .ref 23] σ mc ms P) (k6 : (¬ (x2 ≤ x6)) → (¬ ((sf_ σ 18 x1.toNatClampNeg) ≤ x6)) → ks_W L xs mX5_extend rm_X5_extend 122 [(0, .ref 17), (1, .int x1), (2, .int x2), (5, .int x5), (6, .int x6)] [.int x6, .int x1, .ref 17, .int x6, .ref 23] σ mc ms P) : ks_W L xs mX5_extend rm_X5_extend 95 [(0, .ref 17), (1, .int x1), (2, .int x2), (5, .int x5), (6, .int x6)] [] σ mc ms P := by
  refine ka_iload d_X5_extend_95 rfl 4 rfl ?_
  refine ka_iload_n d_X5_extend_97 rfl rfl 2 rfl ?_
  refine ka_icmp_ge (tgt := 137) d_X5_extend_98 (by decide) rfl (fun c1 => ?_) (fun c1 => ?_)
  · refine ka_aload_n d_X5_extend_137 rfl rfl 0 rfl ?_
    refine ka_iconst (v := 0) d_X5_extend_138 rfl (by decide) ?_
    refine ka_iload_n d_X5_extend_139 rfl rfl 2 rfl ?_
    refine ka_sub [] rfl ?_
    exact (k2 c1)
  · refine ka_aload_n d_X5_extend_101 rfl rfl 0 rfl ?_
    refine gf_X5_9 d_X5_extend_102 rfl fl_X5_27 ?_
    refine ka_iload d_X5_extend_105 rfl 4 rfl ?_
    refine ka_iload d_X5_extend_107 rfl 4 rfl ?_
    refine ka_aload_n d_X5_extend_109 rfl rfl 0 rfl ?_
    refine gf_X5_3 d_X5_extend_110 rfl fl_X5_7 ?_
    refine ka_iload_n d_X5_extend_113 rfl rfl 1 rfl ?_
    refine ks_iald row_18 d_X5_extend_114 rfl (v3 c1) ?_
    refine ka_icmp_ge (tgt := 128) d_X5_extend_115 (by decide) rfl (fun c4 => ?_) (fun c4 => ?_)
    · refine ka_iload d_X5_extend_128 rfl 3 rfl ?_
      exact (k5 c1 c4)
    · refine ka_aload_n d_X5_extend_118 rfl rfl 0 rfl ?_
      refine ka_iload_n d_X5_extend_119 rfl rfl 1 rfl ?_
      refine ka_iload d_X5_extend_120 rfl 4 rfl ?_
      exact (k6 c1 c4)
theorem cs_X5_extend_122 {L : Nat} {xs : Nat → Int32} {σ : ks_St} {mc ms : Nat} {P : ka_O → ks_St → Prop} {f : Int32 → ks_St → Prop} {x1 : Int32} {x2 : Int32} {x5 : Int32} {x6 : Int32} {s1 : Int32} {s3 : Int32} {s4 : Int32} (hK : ks_M L xs mX5_bitOf rm_X5_bitOf [.ref 17, .int s3, .int s4] σ (pi_ f)) (kr : ∀ r σ', f r σ' → ks_W L xs mX5_extend rm_X5_extend 125 [(0, .ref 17), (1, .int x1), (2, .int x2), (5, .int x5), (6, .int x6)] [.int r, .int s1, .ref 23] σ' mc ms P) : ks_W L xs mX5_extend rm_X5_extend 122 [(0, .ref 17), (1, .int x1), (2, .int x2), (5, .int x5), (6, .int x6)] [.int s4, .int s3, .ref 17, .int s1, .ref 23] σ mc ms P := by
  refine ks_callV (q := 125) (o := 17) (ci := 5) (As := [.int s3, .int s4]) (st := [.int s1, .ref 23]) d_X5_extend_122 rfl rfl (by decide) rfl rfl lk_X5_72 ⟨by decide, by decide⟩ (Nat.le_of_ble_eq_true rfl) ⟨Nat.le_refl _, Nat.le_refl _⟩ hK (fun v σ' hq => ?_) (fun E σ' hq => ?_)
  · obtain ⟨r, e, hf⟩ := hq; cases e; exact kr r σ' hf
  · obtain ⟨r, e, hf⟩ := hq; cases e
theorem sg_X5_extend_125 {L : Nat} {xs : Nat → Int32} {σ : ks_St} {mc ms : Nat} {P : ka_O → ks_St → Prop} {x1 : Int32} {x2 : Int32} {x5 : Int32} {x6 : Int32} {s1 : Int32} {s2 : Int32}  (k1 : ks_W L xs mX5_extend rm_X5_extend 130 [(0, .ref 17), (1, .int x1), (2, .int x2), (5, .int x5), (6, .int x6)] [.int s2, .int s1, .ref 23] σ mc ms P) : ks_W L xs mX5_extend rm_X5_extend 125 [(0, .ref 17), (1, .int x1), (2, .int x2), (5, .int x5), (6, .int x6)] [.int s2, .int s1, .ref 23] σ mc ms P := by
  refine ka_goto (q := 130) d_X5_extend_125 (by decide) ?_
  exact k1
theorem sg_X5_extend_130 {L : Nat} {xs : Nat → Int32} {σ : ks_St} {mc ms : Nat} {P : ka_O → ks_St → Prop} {x1 : Int32} {x2 : Int32} {x5 : Int32} {x6 : Int32} {s1 : Int32} {s2 : Int32}  (v1 : vp_in s1 1026) (k2 : ks_W L xs mX5_extend rm_X5_extend 95 [(0, .ref 17), (1, .int x1), (2, .int x2), (5, .int x5), (6, .int (x6 + 1))] [] (uf_ σ 23 (upd (sf_ σ 23) s1.toNatClampNeg s2)) mc ms P) : ks_W L xs mX5_extend rm_X5_extend 130 [(0, .ref 17), (1, .int x1), (2, .int x2), (5, .int x5), (6, .int x6)] [.int s2, .int s1, .ref 23] σ mc ms P := by
  refine ks_iast row_23 d_X5_extend_130 rfl v1 ?_
  refine ka_iinc (g := 4) (v := x6 + 1) (ls' := [(6, .int (x6 + 1)), (0, .ref 17), (1, .int x1), (2, .int x2), (5, .int x5)]) d_X5_extend_131 rfl rfl rfl (by decide) rfl ?_
  refine ka_goto (q := 95) d_X5_extend_134 (by decide) ?_
  refine ka_sub [1, 2, 3, 4, 0] rfl ?_
  exact k2
theorem cs_X5_extend_140 {L : Nat} {xs : Nat → Int32} {σ : ks_St} {mc ms : Nat} {P : ka_O → ks_St → Prop} {f : Int32 → ks_St → Prop} {s1 : Int32} {s2 : Int32} (hK : ks_M L xs mX5_keep rm_X5_keep [.ref 17, .int s1, .int s2] σ (pi_ f)) (kr : ∀ r σ', f r σ' → ks_W L xs mX5_extend rm_X5_extend 143 [] [.int r] σ' mc ms P) : ks_W L xs mX5_extend rm_X5_extend 140 [] [.int s2, .int s1, .ref 17] σ mc ms P := by
  refine ks_callV (q := 143) (o := 17) (ci := 5) (As := [.int s1, .int s2]) (st := []) d_X5_extend_140 rfl rfl (by decide) rfl rfl lk_X5_126 ⟨by decide, by decide⟩ (Nat.le_of_ble_eq_true rfl) ⟨Nat.le_refl _, Nat.le_refl _⟩ hK (fun v σ' hq => ?_) (fun E σ' hq => ?_)
  · obtain ⟨r, e, hf⟩ := hq; cases e; exact kr r σ' hf
  · obtain ⟨r, e, hf⟩ := hq; cases e
theorem sg_X5_extend_143 {L : Nat} {xs : Nat → Int32} {σ : ks_St} {mc ms : Nat} {P : ka_O → ks_St → Prop} {s0 : Int32}  (r1 : P (.inl (some (.int s0))) σ) : ks_W L xs mX5_extend rm_X5_extend 143 [] [.int s0] σ mc ms P := by
  exact ks_iret (ty := .int) d_X5_extend_143 rfl rfl r1
theorem d_X5_compare_0 : decode cX5_compare 0 = .ok (.aload_n 0, 1) := by decide +kernel
theorem d_X5_compare_1 : decode cX5_compare 1 = .ok (.iload_n 1, 1) := by decide +kernel
theorem d_X5_compare_2 : decode cX5_compare 2 = .ok (.invokevirtual 64, 3) := by decide +kernel
theorem d_X5_compare_5 : decode cX5_compare 5 = .ok (.ifCond .eq 11, 3) := by decide +kernel
theorem d_X5_compare_8 : decode cX5_compare 8 = .ok (.aload_n 0, 1) := by decide +kernel
theorem d_X5_compare_9 : decode cX5_compare 9 = .ok (.iload_n 2, 1) := by decide +kernel
theorem d_X5_compare_10 : decode cX5_compare 10 = .ok (.invokevirtual 64, 3) := by decide +kernel
theorem d_X5_compare_13 : decode cX5_compare 13 = .ok (.ifCond .ne 7, 3) := by decide +kernel
theorem d_X5_compare_16 : decode cX5_compare 16 = .ok (.iconst 1, 1) := by decide +kernel
theorem d_X5_compare_17 : decode cX5_compare 17 = .ok (.goto 4, 3) := by decide +kernel
theorem d_X5_compare_20 : decode cX5_compare 20 = .ok (.iconst 0, 1) := by decide +kernel
theorem d_X5_compare_21 : decode cX5_compare 21 = .ok (.istore 4, 2) := by decide +kernel
theorem d_X5_compare_23 : decode cX5_compare 23 = .ok (.aload_n 0, 1) := by decide +kernel
theorem d_X5_compare_24 : decode cX5_compare 24 = .ok (.iload 4, 2) := by decide +kernel
theorem d_X5_compare_26 : decode cX5_compare 26 = .ok (.iload 4, 2) := by decide +kernel
theorem d_X5_compare_28 : decode cX5_compare 28 = .ok (.ifCond .ne 22, 3) := by decide +kernel
theorem d_X5_compare_31 : decode cX5_compare 31 = .ok (.aload_n 0, 1) := by decide +kernel
theorem d_X5_compare_32 : decode cX5_compare 32 = .ok (.getfield 7, 3) := by decide +kernel
theorem d_X5_compare_35 : decode cX5_compare 35 = .ok (.iload_n 1, 1) := by decide +kernel
theorem d_X5_compare_36 : decode cX5_compare 36 = .ok (.iaload, 1) := by decide +kernel
theorem d_X5_compare_37 : decode cX5_compare 37 = .ok (.aload_n 0, 1) := by decide +kernel
theorem d_X5_compare_38 : decode cX5_compare 38 = .ok (.getfield 7, 3) := by decide +kernel
theorem d_X5_compare_41 : decode cX5_compare 41 = .ok (.iload_n 2, 1) := by decide +kernel
theorem d_X5_compare_42 : decode cX5_compare 42 = .ok (.iaload, 1) := by decide +kernel
theorem d_X5_compare_43 : decode cX5_compare 43 = .ok (.if_icmp .eq 7, 3) := by decide +kernel
theorem d_X5_compare_46 : decode cX5_compare 46 = .ok (.iconst 1, 1) := by decide +kernel
theorem d_X5_compare_47 : decode cX5_compare 47 = .ok (.goto 4, 3) := by decide +kernel
theorem d_X5_compare_50 : decode cX5_compare 50 = .ok (.iconst 0, 1) := by decide +kernel
theorem d_X5_compare_51 : decode cX5_compare 51 = .ok (.iconst 0, 1) := by decide +kernel
theorem d_X5_compare_52 : decode cX5_compare 52 = .ok (.iconst 0, 1) := by decide +kernel
theorem d_X5_compare_53 : decode cX5_compare 53 = .ok (.invokevirtual 56, 3) := by decide +kernel
theorem d_X5_compare_56 : decode cX5_compare 56 = .ok (.ifCond .eq 5, 3) := by decide +kernel
theorem d_X5_compare_59 : decode cX5_compare 59 = .ok (.iconst 0, 1) := by decide +kernel
theorem d_X5_compare_60 : decode cX5_compare 60 = .ok (.ireturn, 1) := by decide +kernel
theorem d_X5_compare_61 : decode cX5_compare 61 = .ok (.aload_n 0, 1) := by decide +kernel
theorem d_X5_compare_62 : decode cX5_compare 62 = .ok (.getfield 7, 3) := by decide +kernel
theorem d_X5_compare_65 : decode cX5_compare 65 = .ok (.iload_n 1, 1) := by decide +kernel
theorem d_X5_compare_66 : decode cX5_compare 66 = .ok (.iaload, 1) := by decide +kernel
theorem d_X5_compare_67 : decode cX5_compare 67 = .ok (.istore 5, 2) := by decide +kernel
theorem d_X5_compare_69 : decode cX5_compare 69 = .ok (.iload 5, 2) := by decide +kernel
theorem d_X5_compare_71 : decode cX5_compare 71 = .ok (.iconst 1, 1) := by decide +kernel
theorem d_X5_compare_72 : decode cX5_compare 72 = .ok (.isub, 1) := by decide +kernel
theorem d_X5_compare_73 : decode cX5_compare 73 = .ok (.istore 6, 2) := by decide +kernel
theorem d_X5_compare_75 : decode cX5_compare 75 = .ok (.iload 6, 2) := by decide +kernel
theorem d_X5_compare_77 : decode cX5_compare 77 = .ok (.ifCond .lt 53, 3) := by decide +kernel
theorem d_X5_compare_80 : decode cX5_compare 80 = .ok (.aload_n 0, 1) := by decide +kernel
theorem d_X5_compare_81 : decode cX5_compare 81 = .ok (.iload_n 1, 1) := by decide +kernel
theorem d_X5_compare_82 : decode cX5_compare 82 = .ok (.iload 6, 2) := by decide +kernel
theorem d_X5_compare_84 : decode cX5_compare 84 = .ok (.invokevirtual 72, 3) := by decide +kernel
theorem d_X5_compare_87 : decode cX5_compare 87 = .ok (.aload_n 0, 1) := by decide +kernel
theorem d_X5_compare_88 : decode cX5_compare 88 = .ok (.iload_n 2, 1) := by decide +kernel
theorem d_X5_compare_89 : decode cX5_compare 89 = .ok (.iload 6, 2) := by decide +kernel
theorem d_X5_compare_91 : decode cX5_compare 91 = .ok (.invokevirtual 72, 3) := by decide +kernel
theorem d_X5_compare_94 : decode cX5_compare 94 = .ok (.isub, 1) := by decide +kernel
theorem d_X5_compare_95 : decode cX5_compare 95 = .ok (.istore 7, 2) := by decide +kernel
theorem d_X5_compare_97 : decode cX5_compare 97 = .ok (.iload 7, 2) := by decide +kernel
theorem d_X5_compare_99 : decode cX5_compare 99 = .ok (.ifCond .eq 25, 3) := by decide +kernel
theorem d_X5_compare_102 : decode cX5_compare 102 = .ok (.iload_n 3, 1) := by decide +kernel
theorem d_X5_compare_103 : decode cX5_compare 103 = .ok (.ifCond .eq 18, 3) := by decide +kernel
theorem d_X5_compare_106 : decode cX5_compare 106 = .ok (.iload 6, 2) := by decide +kernel
theorem d_X5_compare_108 : decode cX5_compare 108 = .ok (.iload 5, 2) := by decide +kernel
theorem d_X5_compare_110 : decode cX5_compare 110 = .ok (.iconst 1, 1) := by decide +kernel
theorem d_X5_compare_111 : decode cX5_compare 111 = .ok (.isub, 1) := by decide +kernel
theorem d_X5_compare_112 : decode cX5_compare 112 = .ok (.if_icmp .ne 9, 3) := by decide +kernel
theorem d_X5_compare_115 : decode cX5_compare 115 = .ok (.iload 7, 2) := by decide +kernel
theorem d_X5_compare_117 : decode cX5_compare 117 = .ok (.ineg, 1) := by decide +kernel
theorem d_X5_compare_118 : decode cX5_compare 118 = .ok (.goto 5, 3) := by decide +kernel
theorem d_X5_compare_121 : decode cX5_compare 121 = .ok (.iload 7, 2) := by decide +kernel
theorem d_X5_compare_123 : decode cX5_compare 123 = .ok (.ireturn, 1) := by decide +kernel
theorem d_X5_compare_124 : decode cX5_compare 124 = .ok (.iinc 6 (-1), 3) := by decide +kernel
theorem d_X5_compare_127 : decode cX5_compare 127 = .ok (.goto (-52), 3) := by decide +kernel
theorem d_X5_compare_130 : decode cX5_compare 130 = .ok (.iconst 0, 1) := by decide +kernel
theorem d_X5_compare_131 : decode cX5_compare 131 = .ok (.ireturn, 1) := by decide +kernel
theorem sg_X5_compare_0 {L : Nat} {xs : Nat → Int32} {σ : ks_St} {mc ms : Nat} {P : ka_O → ks_St → Prop} {x1 : Int32} {x2 : Int32} {x3 : Int32}  (k1 : ks_W L xs mX5_compare rm_X5_compare 2 [(0, .ref 17), (1, .int x1), (2, .int x2), (3, .int x3)] [.int x1, .ref 17] σ mc ms P) : ks_W L xs mX5_compare rm_X5_compare 0 [(0, .ref 17), (1, .int x1), (2, .int x2), (3, .int x3)] [] σ mc ms P := by
  refine ka_aload_n d_X5_compare_0 rfl rfl 0 rfl ?_
  refine ka_iload_n d_X5_compare_1 rfl rfl 1 rfl ?_
  exact k1
theorem cs_X5_compare_2 {L : Nat} {xs : Nat → Int32} {σ : ks_St} {mc ms : Nat} {P : ka_O → ks_St → Prop} {f : Int32 → ks_St → Prop} {x1 : Int32} {x2 : Int32} {x3 : Int32} {s1 : Int32} (hK : ks_M L xs mX5_isWord rm_X5_isWord [.ref 17, .int s1] σ (pi_ f)) (kr : ∀ r σ', f r σ' → ks_W L xs mX5_compare rm_X5_compare 5 [(0, .ref 17), (1, .int x1), (2, .int x2), (3, .int x3)] [.int r] σ' mc ms P) : ks_W L xs mX5_compare rm_X5_compare 2 [(0, .ref 17), (1, .int x1), (2, .int x2), (3, .int x3)] [.int s1, .ref 17] σ mc ms P := by
  refine ks_callV (q := 5) (o := 17) (ci := 5) (As := [.int s1]) (st := []) d_X5_compare_2 rfl rfl (by decide) rfl rfl lk_X5_64 ⟨by decide, by decide⟩ (Nat.le_of_ble_eq_true rfl) ⟨Nat.le_refl _, Nat.le_refl _⟩ hK (fun v σ' hq => ?_) (fun E σ' hq => ?_)
  · obtain ⟨r, e, hf⟩ := hq; cases e; exact kr r σ' hf
  · obtain ⟨r, e, hf⟩ := hq; cases e
theorem sg_X5_compare_5 {L : Nat} {xs : Nat → Int32} {σ : ks_St} {mc ms : Nat} {P : ka_O → ks_St → Prop} {x1 : Int32} {x2 : Int32} {x3 : Int32} {s0 : Int32}  (k2 : (s0 = 0) → ks_W L xs mX5_compare rm_X5_compare 16 [(0, .ref 17), (1, .int x1), (2, .int x2), (3, .int x3)] [] σ mc ms P) (k3 : (¬ (s0 = 0)) → ks_W L xs mX5_compare rm_X5_compare 10 [(0, .ref 17), (1, .int x1), (2, .int x2), (3, .int x3)] [.int x2, .ref 17] σ mc ms P) : ks_W L xs mX5_compare rm_X5_compare 5 [(0, .ref 17), (1, .int x1), (2, .int x2), (3, .int x3)] [.int s0] σ mc ms P := by
  refine ka_if_eq (tgt := 16) d_X5_compare_5 (by decide) rfl (fun c1 => ?_) (fun c1 => ?_)
  · exact (k2 c1)
  · refine ka_aload_n d_X5_compare_8 rfl rfl 0 rfl ?_
    refine ka_iload_n d_X5_compare_9 rfl rfl 2 rfl ?_
    exact (k3 c1)
theorem cs_X5_compare_10 {L : Nat} {xs : Nat → Int32} {σ : ks_St} {mc ms : Nat} {P : ka_O → ks_St → Prop} {f : Int32 → ks_St → Prop} {x1 : Int32} {x2 : Int32} {x3 : Int32} {s1 : Int32} (hK : ks_M L xs mX5_isWord rm_X5_isWord [.ref 17, .int s1] σ (pi_ f)) (kr : ∀ r σ', f r σ' → ks_W L xs mX5_compare rm_X5_compare 13 [(0, .ref 17), (1, .int x1), (2, .int x2), (3, .int x3)] [.int r] σ' mc ms P) : ks_W L xs mX5_compare rm_X5_compare 10 [(0, .ref 17), (1, .int x1), (2, .int x2), (3, .int x3)] [.int s1, .ref 17] σ mc ms P := by
  refine ks_callV (q := 13) (o := 17) (ci := 5) (As := [.int s1]) (st := []) d_X5_compare_10 rfl rfl (by decide) rfl rfl lk_X5_64 ⟨by decide, by decide⟩ (Nat.le_of_ble_eq_true rfl) ⟨Nat.le_refl _, Nat.le_refl _⟩ hK (fun v σ' hq => ?_) (fun E σ' hq => ?_)
  · obtain ⟨r, e, hf⟩ := hq; cases e; exact kr r σ' hf
  · obtain ⟨r, e, hf⟩ := hq; cases e
theorem sg_X5_compare_13 {L : Nat} {xs : Nat → Int32} {σ : ks_St} {mc ms : Nat} {P : ka_O → ks_St → Prop} {x1 : Int32} {x2 : Int32} {x3 : Int32} {s0 : Int32}  (k2 : (¬ s0 = 0) → ks_W L xs mX5_compare rm_X5_compare 21 [(0, .ref 17), (1, .int x1), (2, .int x2), (3, .int x3)] [.int 0] σ mc ms P) (k3 : (s0 = 0) → ks_W L xs mX5_compare rm_X5_compare 16 [(0, .ref 17), (1, .int x1), (2, .int x2), (3, .int x3)] [] σ mc ms P) : ks_W L xs mX5_compare rm_X5_compare 13 [(0, .ref 17), (1, .int x1), (2, .int x2), (3, .int x3)] [.int s0] σ mc ms P := by
  refine ka_if_ne (tgt := 20) d_X5_compare_13 (by decide) rfl (fun c1 => ?_) (fun c1 => ?_)
  · refine ka_iconst (v := 0) d_X5_compare_20 rfl (by decide) ?_
    exact (k2 c1)
  · exact (k3 c1)
theorem sg_X5_compare_16 {L : Nat} {xs : Nat → Int32} {σ : ks_St} {mc ms : Nat} {P : ka_O → ks_St → Prop} {x1 : Int32} {x2 : Int32} {x3 : Int32}  (k1 : ks_W L xs mX5_compare rm_X5_compare 21 [(0, .ref 17), (1, .int x1), (2, .int x2), (3, .int x3)] [.int 1] σ mc ms P) : ks_W L xs mX5_compare rm_X5_compare 16 [(0, .ref 17), (1, .int x1), (2, .int x2), (3, .int x3)] [] σ mc ms P := by
  refine ka_iconst (v := 1) d_X5_compare_16 rfl (by decide) ?_
  refine ka_goto (q := 21) d_X5_compare_17 (by decide) ?_
  exact k1
theorem sg_X5_compare_21 {L : Nat} {xs : Nat → Int32} {σ : ks_St} {mc ms : Nat} {P : ka_O → ks_St → Prop} {x1 : Int32} {x2 : Int32} {x3 : Int32} {s0 : Int32}  (k2 : (¬ s0 = 0) → ks_W L xs mX5_compare rm_X5_compare 50 [(0, .ref 17), (1, .int x1), (2, .int x2), (3, .int x3)] [.int s0, .ref 17] σ mc ms P) (v3 : (s0 = 0) → vp_in x1 600) (v4 : (s0 = 0) → vp_in x2 600) (k6 : (s0 = 0) → ((sf_ σ 18 x1.toNatClampNeg) = (sf_ σ 18 x2.toNatClampNeg)) → ks_W L xs mX5_compare rm_X5_compare 50 [(0, .ref 17), (1, .int x1), (2, .int x2), (3, .int x3)] [.int s0, .ref 17] σ mc ms P) (k7 : (s0 = 0) → (¬ ((sf_ σ 18 x1.toNatClampNeg) = (sf_ σ 18 x2.toNatClampNeg))) → ks_W L xs mX5_compare rm_X5_compare 51 [(0, .ref 17), (1, .int x1), (2, .int x2), (3, .int x3)] [.int 1, .int s0, .ref 17] σ mc ms P) : ks_W L xs mX5_compare rm_X5_compare 21 [(0, .ref 17), (1, .int x1), (2, .int x2), (3, .int x3)] [.int s0] σ mc ms P := by
  refine ka_istore (ls' := [(4, .int s0), (0, .ref 17), (1, .int x1), (2, .int x2), (3, .int x3)]) d_X5_compare_21 rfl (by decide) rfl ?_
  refine ka_aload_n d_X5_compare_23 rfl rfl 1 rfl ?_
  refine ka_iload d_X5_compare_24 rfl 0 rfl ?_
  refine ka_iload d_X5_compare_26 rfl 0 rfl ?_
  refine ka_if_ne (tgt := 50) d_X5_compare_28 (by decide) rfl (fun c1 => ?_) (fun c1 => ?_)
  · refine ka_sub [1, 2, 3, 4] rfl ?_
    exact (k2 c1)
  · refine ka_aload_n d_X5_compare_31 rfl rfl 1 rfl ?_
    refine gf_X5_3 d_X5_compare_32 rfl fl_X5_7 ?_
    refine ka_iload_n d_X5_compare_35 rfl rfl 2 rfl ?_
    refine ks_iald row_18 d_X5_compare_36 rfl (v3 c1) ?_
    refine ka_aload_n d_X5_compare_37 rfl rfl 1 rfl ?_
    refine gf_X5_3 d_X5_compare_38 rfl fl_X5_7 ?_
    refine ka_iload_n d_X5_compare_41 rfl rfl 3 rfl ?_
    refine ks_iald row_18 d_X5_compare_42 rfl (v4 c1) ?_
    refine ka_icmp_eq (tgt := 50) d_X5_compare_43 (by decide) rfl (fun c5 => ?_) (fun c5 => ?_)
    · refine ka_sub [1, 2, 3, 4] rfl ?_
      exact (k6 c1 c5)
    · refine ka_iconst (v := 1) d_X5_compare_46 rfl (by decide) ?_
      refine ka_goto (q := 51) d_X5_compare_47 (by decide) ?_
      refine ka_sub [1, 2, 3, 4] rfl ?_
      exact (k7 c1 c5)
theorem sg_X5_compare_50 {L : Nat} {xs : Nat → Int32} {σ : ks_St} {mc ms : Nat} {P : ka_O → ks_St → Prop} {x1 : Int32} {x2 : Int32} {x3 : Int32} {s1 : Int32}  (k1 : ks_W L xs mX5_compare rm_X5_compare 51 [(0, .ref 17), (1, .int x1), (2, .int x2), (3, .int x3)] [.int 0, .int s1, .ref 17] σ mc ms P) : ks_W L xs mX5_compare rm_X5_compare 50 [(0, .ref 17), (1, .int x1), (2, .int x2), (3, .int x3)] [.int s1, .ref 17] σ mc ms P := by
  refine ka_iconst (v := 0) d_X5_compare_50 rfl (by decide) ?_
  exact k1
theorem sg_X5_compare_51 {L : Nat} {xs : Nat → Int32} {σ : ks_St} {mc ms : Nat} {P : ka_O → ks_St → Prop} {x1 : Int32} {x2 : Int32} {x3 : Int32} {s1 : Int32} {s2 : Int32}  (k1 : ks_W L xs mX5_compare rm_X5_compare 53 [(0, .ref 17), (1, .int x1), (2, .int x2), (3, .int x3)] [.int 0, .int 0, .int s2, .int s1, .ref 17] σ mc ms P) : ks_W L xs mX5_compare rm_X5_compare 51 [(0, .ref 17), (1, .int x1), (2, .int x2), (3, .int x3)] [.int s2, .int s1, .ref 17] σ mc ms P := by
  refine ka_iconst (v := 0) d_X5_compare_51 rfl (by decide) ?_
  refine ka_iconst (v := 0) d_X5_compare_52 rfl (by decide) ?_
  exact k1
theorem cs_X5_compare_53 {L : Nat} {xs : Nat → Int32} {σ : ks_St} {mc ms : Nat} {P : ka_O → ks_St → Prop} {f : Int32 → ks_St → Prop} {x1 : Int32} {x2 : Int32} {x3 : Int32} {s1 : Int32} {s2 : Int32} {s3 : Int32} {s4 : Int32} (hK : ks_M L xs mX5_throwing rm_X5_throwing [.ref 17, .int s1, .int s2, .int s3, .int s4] σ (pi_ f)) (kr : ∀ r σ', f r σ' → ks_W L xs mX5_compare rm_X5_compare 56 [(0, .ref 17), (1, .int x1), (2, .int x2), (3, .int x3)] [.int r] σ' mc ms P) : ks_W L xs mX5_compare rm_X5_compare 53 [(0, .ref 17), (1, .int x1), (2, .int x2), (3, .int x3)] [.int s4, .int s3, .int s2, .int s1, .ref 17] σ mc ms P := by
  refine ks_callV (q := 56) (o := 17) (ci := 5) (As := [.int s1, .int s2, .int s3, .int s4]) (st := []) d_X5_compare_53 rfl rfl (by decide) rfl rfl lk_X5_56 ⟨by decide, by decide⟩ (Nat.le_of_ble_eq_true rfl) ⟨Nat.le_refl _, Nat.le_refl _⟩ hK (fun v σ' hq => ?_) (fun E σ' hq => ?_)
  · obtain ⟨r, e, hf⟩ := hq; cases e; exact kr r σ' hf
  · obtain ⟨r, e, hf⟩ := hq; cases e
theorem sg_X5_compare_56 {L : Nat} {xs : Nat → Int32} {σ : ks_St} {mc ms : Nat} {P : ka_O → ks_St → Prop} {x1 : Int32} {x2 : Int32} {x3 : Int32} {s0 : Int32}  (v2 : (s0 = 0) → vp_in x1 600) (k3 : (s0 = 0) → ks_W L xs mX5_compare rm_X5_compare 75 [(0, .ref 17), (1, .int x1), (2, .int x2), (3, .int x3), (5, .int (sf_ σ 18 x1.toNatClampNeg)), (6, .int ((sf_ σ 18 x1.toNatClampNeg) - 1))] [] σ mc ms P) (r4 : (¬ (s0 = 0)) → P (.inl (some (.int 0))) σ) : ks_W L xs mX5_compare rm_X5_compare 56 [(0, .ref 17), (1, .int x1), (2, .int x2), (3, .int x3)] [.int s0] σ mc ms P := by
  refine ka_if_eq (tgt := 61) d_X5_compare_56 (by decide) rfl (fun c1 => ?_) (fun c1 => ?_)
  · refine ka_aload_n d_X5_compare_61 rfl rfl 0 rfl ?_
    refine gf_X5_3 d_X5_compare_62 rfl fl_X5_7 ?_
    refine ka_iload_n d_X5_compare_65 rfl rfl 1 rfl ?_
    refine ks_iald row_18 d_X5_compare_66 rfl (v2 c1) ?_
    refine ka_istore (ls' := [(5, .int (sf_ σ 18 x1.toNatClampNeg)), (0, .ref 17), (1, .int x1), (2, .int x2), (3, .int x3)]) d_X5_compare_67 rfl (by decide) rfl ?_
    refine ka_iload d_X5_compare_69 rfl 0 rfl ?_
    refine ka_iconst (v := 1) d_X5_compare_71 rfl (by decide) ?_
    refine ka_isub d_X5_compare_72 rfl ?_
    refine ka_istore (ls' := [(6, .int ((sf_ σ 18 x1.toNatClampNeg) - 1)), (5, .int (sf_ σ 18 x1.toNatClampNeg)), (0, .ref 17), (1, .int x1), (2, .int x2), (3, .int x3)]) d_X5_compare_73 rfl (by decide) rfl ?_
    refine ka_sub [2, 3, 4, 5, 1, 0] rfl ?_
    exact (k3 c1)
  · refine ka_iconst (v := 0) d_X5_compare_59 rfl (by decide) ?_
    exact ks_iret (ty := .int) d_X5_compare_60 rfl rfl (r4 c1)
theorem sg_X5_compare_75 {L : Nat} {xs : Nat → Int32} {σ : ks_St} {mc ms : Nat} {P : ka_O → ks_St → Prop} {x1 : Int32} {x2 : Int32} {x3 : Int32} {x5 : Int32} {x6 : Int32}  (r2 : (x6 < 0) → P (.inl (some (.int 0))) σ) (k3 : (¬ (x6 < 0)) → ks_W L xs mX5_compare rm_X5_compare 84 [(0, .ref 17), (1, .int x1), (2, .int x2), (3, .int x3), (5, .int x5), (6, .int x6)] [.int x6, .int x1, .ref 17] σ mc ms P) : ks_W L xs mX5_compare rm_X5_compare 75 [(0, .ref 17), (1, .int x1), (2, .int x2), (3, .int x3), (5, .int x5), (6, .int x6)] [] σ mc ms P := by
  refine ka_iload d_X5_compare_75 rfl 5 rfl ?_
  refine ka_if_lt (tgt := 130) d_X5_compare_77 (by decide) rfl (fun c1 => ?_) (fun c1 => ?_)
  · refine ka_iconst (v := 0) d_X5_compare_130 rfl (by decide) ?_
    exact ks_iret (ty := .int) d_X5_compare_131 rfl rfl (r2 c1)
  · refine ka_aload_n d_X5_compare_80 rfl rfl 0 rfl ?_
    refine ka_iload_n d_X5_compare_81 rfl rfl 1 rfl ?_
    refine ka_iload d_X5_compare_82 rfl 5 rfl ?_
    exact (k3 c1)
theorem cs_X5_compare_84 {L : Nat} {xs : Nat → Int32} {σ : ks_St} {mc ms : Nat} {P : ka_O → ks_St → Prop} {f : Int32 → ks_St → Prop} {x1 : Int32} {x2 : Int32} {x3 : Int32} {x5 : Int32} {x6 : Int32} {s1 : Int32} {s2 : Int32} (hK : ks_M L xs mX5_bitOf rm_X5_bitOf [.ref 17, .int s1, .int s2] σ (pi_ f)) (kr : ∀ r σ', f r σ' → ks_W L xs mX5_compare rm_X5_compare 87 [(0, .ref 17), (1, .int x1), (2, .int x2), (3, .int x3), (5, .int x5), (6, .int x6)] [.int r] σ' mc ms P) : ks_W L xs mX5_compare rm_X5_compare 84 [(0, .ref 17), (1, .int x1), (2, .int x2), (3, .int x3), (5, .int x5), (6, .int x6)] [.int s2, .int s1, .ref 17] σ mc ms P := by
  refine ks_callV (q := 87) (o := 17) (ci := 5) (As := [.int s1, .int s2]) (st := []) d_X5_compare_84 rfl rfl (by decide) rfl rfl lk_X5_72 ⟨by decide, by decide⟩ (Nat.le_of_ble_eq_true rfl) ⟨Nat.le_refl _, Nat.le_refl _⟩ hK (fun v σ' hq => ?_) (fun E σ' hq => ?_)
  · obtain ⟨r, e, hf⟩ := hq; cases e; exact kr r σ' hf
  · obtain ⟨r, e, hf⟩ := hq; cases e
theorem sg_X5_compare_87 {L : Nat} {xs : Nat → Int32} {σ : ks_St} {mc ms : Nat} {P : ka_O → ks_St → Prop} {x1 : Int32} {x2 : Int32} {x3 : Int32} {x5 : Int32} {x6 : Int32} {s0 : Int32}  (k1 : ks_W L xs mX5_compare rm_X5_compare 91 [(0, .ref 17), (1, .int x1), (2, .int x2), (3, .int x3), (5, .int x5), (6, .int x6)] [.int x6, .int x2, .ref 17, .int s0] σ mc ms P) : ks_W L xs mX5_compare rm_X5_compare 87 [(0, .ref 17), (1, .int x1), (2, .int x2), (3, .int x3), (5, .int x5), (6, .int x6)] [.int s0] σ mc ms P := by
  refine ka_aload_n d_X5_compare_87 rfl rfl 0 rfl ?_
  refine ka_iload_n d_X5_compare_88 rfl rfl 2 rfl ?_
  refine ka_iload d_X5_compare_89 rfl 5 rfl ?_
  exact k1
theorem cs_X5_compare_91 {L : Nat} {xs : Nat → Int32} {σ : ks_St} {mc ms : Nat} {P : ka_O → ks_St → Prop} {f : Int32 → ks_St → Prop} {x1 : Int32} {x2 : Int32} {x3 : Int32} {x5 : Int32} {x6 : Int32} {s0 : Int32} {s2 : Int32} {s3 : Int32} (hK : ks_M L xs mX5_bitOf rm_X5_bitOf [.ref 17, .int s2, .int s3] σ (pi_ f)) (kr : ∀ r σ', f r σ' → ks_W L xs mX5_compare rm_X5_compare 94 [(0, .ref 17), (1, .int x1), (2, .int x2), (3, .int x3), (5, .int x5), (6, .int x6)] [.int r, .int s0] σ' mc ms P) : ks_W L xs mX5_compare rm_X5_compare 91 [(0, .ref 17), (1, .int x1), (2, .int x2), (3, .int x3), (5, .int x5), (6, .int x6)] [.int s3, .int s2, .ref 17, .int s0] σ mc ms P := by
  refine ks_callV (q := 94) (o := 17) (ci := 5) (As := [.int s2, .int s3]) (st := [.int s0]) d_X5_compare_91 rfl rfl (by decide) rfl rfl lk_X5_72 ⟨by decide, by decide⟩ (Nat.le_of_ble_eq_true rfl) ⟨Nat.le_refl _, Nat.le_refl _⟩ hK (fun v σ' hq => ?_) (fun E σ' hq => ?_)
  · obtain ⟨r, e, hf⟩ := hq; cases e; exact kr r σ' hf
  · obtain ⟨r, e, hf⟩ := hq; cases e
theorem sg_X5_compare_94 {L : Nat} {xs : Nat → Int32} {σ : ks_St} {mc ms : Nat} {P : ka_O → ks_St → Prop} {x1 : Int32} {x2 : Int32} {x3 : Int32} {x5 : Int32} {x6 : Int32} {s0 : Int32} {s1 : Int32}  (k2 : ((s0 - s1) = 0) → ks_W L xs mX5_compare rm_X5_compare 75 [(0, .ref 17), (1, .int x1), (2, .int x2), (3, .int x3), (5, .int x5), (6, .int (x6 + (-1)))] [] σ mc ms P) (k4 : (¬ ((s0 - s1) = 0)) → (x3 = 0) → ks_W L xs mX5_compare rm_X5_compare 121 [(7, .int (s0 - s1))] [] σ mc ms P) (k6 : (¬ ((s0 - s1) = 0)) → (¬ (x3 = 0)) → (¬ x6 = (x5 - 1)) → ks_W L xs mX5_compare rm_X5_compare 121 [(7, .int (s0 - s1))] [] σ mc ms P) (k7 : (¬ ((s0 - s1) = 0)) → (¬ (x3 = 0)) → (x6 = (x5 - 1)) → ks_W L xs mX5_compare rm_X5_compare 123 [] [.int (-(s0 - s1))] σ mc ms P) : ks_W L xs mX5_compare rm_X5_compare 94 [(0, .ref 17), (1, .int x1), (2, .int x2), (3, .int x3), (5, .int x5), (6, .int x6)] [.int s1, .int s0] σ mc ms P := by
  refine ka_isub d_X5_compare_94 rfl ?_
  refine ka_istore (ls' := [(7, .int (s0 - s1)), (0, .ref 17), (1, .int x1), (2, .int x2), (3, .int x3), (5, .int x5), (6, .int x6)]) d_X5_compare_95 rfl (by decide) rfl ?_
  refine ka_iload d_X5_compare_97 rfl 0 rfl ?_
  refine ka_if_eq (tgt := 124) d_X5_compare_99 (by decide) rfl (fun c1 => ?_) (fun c1 => ?_)
  · refine ka_iinc (g := 6) (v := x6 + (-1)) (ls' := [(6, .int (x6 + (-1))), (7, .int (s0 - s1)), (0, .ref 17), (1, .int x1), (2, .int x2), (3, .int x3), (5, .int x5)]) d_X5_compare_124 rfl rfl rfl (by decide) rfl ?_
    refine ka_goto (q := 75) d_X5_compare_127 (by decide) ?_
    refine ka_sub [2, 3, 4, 5, 6, 0] rfl ?_
    exact (k2 c1)
  · refine ka_iload_n d_X5_compare_102 rfl rfl 4 rfl ?_
    refine ka_if_eq (tgt := 121) d_X5_compare_103 (by decide) rfl (fun c3 => ?_) (fun c3 => ?_)
    · refine ka_sub [0] rfl ?_
      exact (k4 c1 c3)
    · refine ka_iload d_X5_compare_106 rfl 6 rfl ?_
      refine ka_iload d_X5_compare_108 rfl 5 rfl ?_
      refine ka_iconst (v := 1) d_X5_compare_110 rfl (by decide) ?_
      refine ka_isub d_X5_compare_111 rfl ?_
      refine ka_icmp_ne (tgt := 121) d_X5_compare_112 (by decide) rfl (fun c5 => ?_) (fun c5 => ?_)
      · refine ka_sub [0] rfl ?_
        exact (k6 c1 c3 c5)
      · refine ka_iload d_X5_compare_115 rfl 0 rfl ?_
        refine ka_ineg d_X5_compare_117 rfl ?_
        refine ka_goto (q := 123) d_X5_compare_118 (by decide) ?_
        refine ka_sub [] rfl ?_
        exact (k7 c1 c3 c5)
theorem sg_X5_compare_121 {L : Nat} {xs : Nat → Int32} {σ : ks_St} {mc ms : Nat} {P : ka_O → ks_St → Prop} {x7 : Int32}  (k1 : ks_W L xs mX5_compare rm_X5_compare 123 [] [.int x7] σ mc ms P) : ks_W L xs mX5_compare rm_X5_compare 121 [(7, .int x7)] [] σ mc ms P := by
  refine ka_iload d_X5_compare_121 rfl 0 rfl ?_
  refine ka_sub [] rfl ?_
  exact k1
theorem sg_X5_compare_123 {L : Nat} {xs : Nat → Int32} {σ : ks_St} {mc ms : Nat} {P : ka_O → ks_St → Prop} {s0 : Int32}  (r1 : P (.inl (some (.int s0))) σ) : ks_W L xs mX5_compare rm_X5_compare 123 [] [.int s0] σ mc ms P := by
  exact ks_iret (ty := .int) d_X5_compare_123 rfl rfl r1
theorem d_X5_bit_0 : decode cX5_bit 0 = .ok (.aload_n 0, 1) := by decide +kernel
theorem d_X5_bit_1 : decode cX5_bit 1 = .ok (.iload_n 1, 1) := by decide +kernel
theorem d_X5_bit_2 : decode cX5_bit 2 = .ok (.invokevirtual 64, 3) := by decide +kernel
theorem d_X5_bit_5 : decode cX5_bit 5 = .ok (.ifCond .ne 7, 3) := by decide +kernel
theorem d_X5_bit_8 : decode cX5_bit 8 = .ok (.iconst 1, 1) := by decide +kernel
theorem d_X5_bit_9 : decode cX5_bit 9 = .ok (.goto 4, 3) := by decide +kernel
theorem d_X5_bit_12 : decode cX5_bit 12 = .ok (.iconst 0, 1) := by decide +kernel
theorem d_X5_bit_13 : decode cX5_bit 13 = .ok (.istore_n 3, 1) := by decide +kernel
theorem d_X5_bit_14 : decode cX5_bit 14 = .ok (.aload_n 0, 1) := by decide +kernel
theorem d_X5_bit_15 : decode cX5_bit 15 = .ok (.iload_n 3, 1) := by decide +kernel
theorem d_X5_bit_16 : decode cX5_bit 16 = .ok (.iload_n 3, 1) := by decide +kernel
theorem d_X5_bit_17 : decode cX5_bit 17 = .ok (.ifCond .ne 21, 3) := by decide +kernel
theorem d_X5_bit_20 : decode cX5_bit 20 = .ok (.iload_n 2, 1) := by decide +kernel
theorem d_X5_bit_21 : decode cX5_bit 21 = .ok (.ifCond .lt 13, 3) := by decide +kernel
theorem d_X5_bit_24 : decode cX5_bit 24 = .ok (.iload_n 2, 1) := by decide +kernel
theorem d_X5_bit_25 : decode cX5_bit 25 = .ok (.aload_n 0, 1) := by decide +kernel
theorem d_X5_bit_26 : decode cX5_bit 26 = .ok (.getfield 7, 3) := by decide +kernel
theorem d_X5_bit_29 : decode cX5_bit 29 = .ok (.iload_n 1, 1) := by decide +kernel
theorem d_X5_bit_30 : decode cX5_bit 30 = .ok (.iaload, 1) := by decide +kernel
theorem d_X5_bit_31 : decode cX5_bit 31 = .ok (.if_icmp .lt 7, 3) := by decide +kernel
theorem d_X5_bit_34 : decode cX5_bit 34 = .ok (.iconst 1, 1) := by decide +kernel
theorem d_X5_bit_35 : decode cX5_bit 35 = .ok (.goto 4, 3) := by decide +kernel
theorem d_X5_bit_38 : decode cX5_bit 38 = .ok (.iconst 0, 1) := by decide +kernel
theorem d_X5_bit_39 : decode cX5_bit 39 = .ok (.iconst 0, 1) := by decide +kernel
theorem d_X5_bit_40 : decode cX5_bit 40 = .ok (.iconst 0, 1) := by decide +kernel
theorem d_X5_bit_41 : decode cX5_bit 41 = .ok (.invokevirtual 56, 3) := by decide +kernel
theorem d_X5_bit_44 : decode cX5_bit 44 = .ok (.ifCond .eq 5, 3) := by decide +kernel
theorem d_X5_bit_47 : decode cX5_bit 47 = .ok (.iconst 0, 1) := by decide +kernel
theorem d_X5_bit_48 : decode cX5_bit 48 = .ok (.ireturn, 1) := by decide +kernel
theorem d_X5_bit_49 : decode cX5_bit 49 = .ok (.aload_n 0, 1) := by decide +kernel
theorem d_X5_bit_50 : decode cX5_bit 50 = .ok (.iload_n 1, 1) := by decide +kernel
theorem d_X5_bit_51 : decode cX5_bit 51 = .ok (.iload_n 2, 1) := by decide +kernel
theorem d_X5_bit_52 : decode cX5_bit 52 = .ok (.invokevirtual 72, 3) := by decide +kernel
theorem d_X5_bit_55 : decode cX5_bit 55 = .ok (.iconst 1, 1) := by decide +kernel
theorem d_X5_bit_56 : decode cX5_bit 56 = .ok (.if_icmp .ne 7, 3) := by decide +kernel
theorem d_X5_bit_59 : decode cX5_bit 59 = .ok (.iconst 1, 1) := by decide +kernel
theorem d_X5_bit_60 : decode cX5_bit 60 = .ok (.goto 4, 3) := by decide +kernel
theorem d_X5_bit_63 : decode cX5_bit 63 = .ok (.iconst 0, 1) := by decide +kernel
theorem d_X5_bit_64 : decode cX5_bit 64 = .ok (.ireturn, 1) := by decide +kernel
theorem sg_X5_bit_0 {L : Nat} {xs : Nat → Int32} {σ : ks_St} {mc ms : Nat} {P : ka_O → ks_St → Prop} {x1 : Int32} {x2 : Int32}  (k1 : ks_W L xs mX5_bit rm_X5_bit 2 [(0, .ref 17), (1, .int x1), (2, .int x2)] [.int x1, .ref 17] σ mc ms P) : ks_W L xs mX5_bit rm_X5_bit 0 [(0, .ref 17), (1, .int x1), (2, .int x2)] [] σ mc ms P := by
  refine ka_aload_n d_X5_bit_0 rfl rfl 0 rfl ?_
  refine ka_iload_n d_X5_bit_1 rfl rfl 1 rfl ?_
  exact k1
theorem cs_X5_bit_2 {L : Nat} {xs : Nat → Int32} {σ : ks_St} {mc ms : Nat} {P : ka_O → ks_St → Prop} {f : Int32 → ks_St → Prop} {x1 : Int32} {x2 : Int32} {s1 : Int32} (hK : ks_M L xs mX5_isWord rm_X5_isWord [.ref 17, .int s1] σ (pi_ f)) (kr : ∀ r σ', f r σ' → ks_W L xs mX5_bit rm_X5_bit 5 [(0, .ref 17), (1, .int x1), (2, .int x2)] [.int r] σ' mc ms P) : ks_W L xs mX5_bit rm_X5_bit 2 [(0, .ref 17), (1, .int x1), (2, .int x2)] [.int s1, .ref 17] σ mc ms P := by
  refine ks_callV (q := 5) (o := 17) (ci := 5) (As := [.int s1]) (st := []) d_X5_bit_2 rfl rfl (by decide) rfl rfl lk_X5_64 ⟨by decide, by decide⟩ (Nat.le_of_ble_eq_true rfl) ⟨Nat.le_refl _, Nat.le_refl _⟩ hK (fun v σ' hq => ?_) (fun E σ' hq => ?_)
  · obtain ⟨r, e, hf⟩ := hq; cases e; exact kr r σ' hf
  · obtain ⟨r, e, hf⟩ := hq; cases e
theorem sg_X5_bit_5 {L : Nat} {xs : Nat → Int32} {σ : ks_St} {mc ms : Nat} {P : ka_O → ks_St → Prop} {x1 : Int32} {x2 : Int32} {s0 : Int32}  (k2 : (¬ s0 = 0) → ks_W L xs mX5_bit rm_X5_bit 13 [(0, .ref 17), (1, .int x1), (2, .int x2)] [.int 0] σ mc ms P) (k3 : (s0 = 0) → ks_W L xs mX5_bit rm_X5_bit 13 [(0, .ref 17), (1, .int x1), (2, .int x2)] [.int 1] σ mc ms P) : ks_W L xs mX5_bit rm_X5_bit 5 [(0, .ref 17), (1, .int x1), (2, .int x2)] [.int s0] σ mc ms P := by
  refine ka_if_ne (tgt := 12) d_X5_bit_5 (by decide) rfl (fun c1 => ?_) (fun c1 => ?_)
  · refine ka_iconst (v := 0) d_X5_bit_12 rfl (by decide) ?_
    exact (k2 c1)
  · refine ka_iconst (v := 1) d_X5_bit_8 rfl (by decide) ?_
    refine ka_goto (q := 13) d_X5_bit_9 (by decide) ?_
    exact (k3 c1)
theorem sg_X5_bit_13 {L : Nat} {xs : Nat → Int32} {σ : ks_St} {mc ms : Nat} {P : ka_O → ks_St → Prop} {x1 : Int32} {x2 : Int32} {s0 : Int32}  (k2 : (¬ s0 = 0) → ks_W L xs mX5_bit rm_X5_bit 38 [(0, .ref 17), (1, .int x1), (2, .int x2)] [.int s0, .ref 17] σ mc ms P) (k4 : (s0 = 0) → (x2 < 0) → ks_W L xs mX5_bit rm_X5_bit 34 [(0, .ref 17), (1, .int x1), (2, .int x2)] [.int s0, .ref 17] σ mc ms P) (v5 : (s0 = 0) → (¬ (x2 < 0)) → vp_in x1 600) (k7 : (s0 = 0) → (¬ (x2 < 0)) → (x2 < (sf_ σ 18 x1.toNatClampNeg)) → ks_W L xs mX5_bit rm_X5_bit 38 [(0, .ref 17), (1, .int x1), (2, .int x2)] [.int s0, .ref 17] σ mc ms P) (k8 : (s0 = 0) → (¬ (x2 < 0)) → (¬ (x2 < (sf_ σ 18 x1.toNatClampNeg))) → ks_W L xs mX5_bit rm_X5_bit 34 [(0, .ref 17), (1, .int x1), (2, .int x2)] [.int s0, .ref 17] σ mc ms P) : ks_W L xs mX5_bit rm_X5_bit 13 [(0, .ref 17), (1, .int x1), (2, .int x2)] [.int s0] σ mc ms P := by
  refine ka_istore_n (ls' := [(3, .int s0), (0, .ref 17), (1, .int x1), (2, .int x2)]) d_X5_bit_13 rfl rfl (by decide) rfl ?_
  refine ka_aload_n d_X5_bit_14 rfl rfl 1 rfl ?_
  refine ka_iload_n d_X5_bit_15 rfl rfl 0 rfl ?_
  refine ka_iload_n d_X5_bit_16 rfl rfl 0 rfl ?_
  refine ka_if_ne (tgt := 38) d_X5_bit_17 (by decide) rfl (fun c1 => ?_) (fun c1 => ?_)
  · refine ka_sub [1, 2, 3] rfl ?_
    exact (k2 c1)
  · refine ka_iload_n d_X5_bit_20 rfl rfl 3 rfl ?_
    refine ka_if_lt (tgt := 34) d_X5_bit_21 (by decide) rfl (fun c3 => ?_) (fun c3 => ?_)
    · refine ka_sub [1, 2, 3] rfl ?_
      exact (k4 c1 c3)
    · refine ka_iload_n d_X5_bit_24 rfl rfl 3 rfl ?_
      refine ka_aload_n d_X5_bit_25 rfl rfl 1 rfl ?_
      refine gf_X5_3 d_X5_bit_26 rfl fl_X5_7 ?_
      refine ka_iload_n d_X5_bit_29 rfl rfl 2 rfl ?_
      refine ks_iald row_18 d_X5_bit_30 rfl (v5 c1 c3) ?_
      refine ka_icmp_lt (tgt := 38) d_X5_bit_31 (by decide) rfl (fun c6 => ?_) (fun c6 => ?_)
      · refine ka_sub [1, 2, 3] rfl ?_
        exact (k7 c1 c3 c6)
      · refine ka_sub [1, 2, 3] rfl ?_
        exact (k8 c1 c3 c6)
theorem sg_X5_bit_34 {L : Nat} {xs : Nat → Int32} {σ : ks_St} {mc ms : Nat} {P : ka_O → ks_St → Prop} {x1 : Int32} {x2 : Int32} {s1 : Int32}  (k1 : ks_W L xs mX5_bit rm_X5_bit 39 [(0, .ref 17), (1, .int x1), (2, .int x2)] [.int 1, .int s1, .ref 17] σ mc ms P) : ks_W L xs mX5_bit rm_X5_bit 34 [(0, .ref 17), (1, .int x1), (2, .int x2)] [.int s1, .ref 17] σ mc ms P := by
  refine ka_iconst (v := 1) d_X5_bit_34 rfl (by decide) ?_
  refine ka_goto (q := 39) d_X5_bit_35 (by decide) ?_
  exact k1
theorem sg_X5_bit_38 {L : Nat} {xs : Nat → Int32} {σ : ks_St} {mc ms : Nat} {P : ka_O → ks_St → Prop} {x1 : Int32} {x2 : Int32} {s1 : Int32}  (k1 : ks_W L xs mX5_bit rm_X5_bit 39 [(0, .ref 17), (1, .int x1), (2, .int x2)] [.int 0, .int s1, .ref 17] σ mc ms P) : ks_W L xs mX5_bit rm_X5_bit 38 [(0, .ref 17), (1, .int x1), (2, .int x2)] [.int s1, .ref 17] σ mc ms P := by
  refine ka_iconst (v := 0) d_X5_bit_38 rfl (by decide) ?_
  exact k1
theorem sg_X5_bit_39 {L : Nat} {xs : Nat → Int32} {σ : ks_St} {mc ms : Nat} {P : ka_O → ks_St → Prop} {x1 : Int32} {x2 : Int32} {s1 : Int32} {s2 : Int32}  (k1 : ks_W L xs mX5_bit rm_X5_bit 41 [(0, .ref 17), (1, .int x1), (2, .int x2)] [.int 0, .int 0, .int s2, .int s1, .ref 17] σ mc ms P) : ks_W L xs mX5_bit rm_X5_bit 39 [(0, .ref 17), (1, .int x1), (2, .int x2)] [.int s2, .int s1, .ref 17] σ mc ms P := by
  refine ka_iconst (v := 0) d_X5_bit_39 rfl (by decide) ?_
  refine ka_iconst (v := 0) d_X5_bit_40 rfl (by decide) ?_
  exact k1
theorem cs_X5_bit_41 {L : Nat} {xs : Nat → Int32} {σ : ks_St} {mc ms : Nat} {P : ka_O → ks_St → Prop} {f : Int32 → ks_St → Prop} {x1 : Int32} {x2 : Int32} {s1 : Int32} {s2 : Int32} {s3 : Int32} {s4 : Int32} (hK : ks_M L xs mX5_throwing rm_X5_throwing [.ref 17, .int s1, .int s2, .int s3, .int s4] σ (pi_ f)) (kr : ∀ r σ', f r σ' → ks_W L xs mX5_bit rm_X5_bit 44 [(0, .ref 17), (1, .int x1), (2, .int x2)] [.int r] σ' mc ms P) : ks_W L xs mX5_bit rm_X5_bit 41 [(0, .ref 17), (1, .int x1), (2, .int x2)] [.int s4, .int s3, .int s2, .int s1, .ref 17] σ mc ms P := by
  refine ks_callV (q := 44) (o := 17) (ci := 5) (As := [.int s1, .int s2, .int s3, .int s4]) (st := []) d_X5_bit_41 rfl rfl (by decide) rfl rfl lk_X5_56 ⟨by decide, by decide⟩ (Nat.le_of_ble_eq_true rfl) ⟨Nat.le_refl _, Nat.le_refl _⟩ hK (fun v σ' hq => ?_) (fun E σ' hq => ?_)
  · obtain ⟨r, e, hf⟩ := hq; cases e; exact kr r σ' hf
  · obtain ⟨r, e, hf⟩ := hq; cases e
theorem sg_X5_bit_44 {L : Nat} {xs : Nat → Int32} {σ : ks_St} {mc ms : Nat} {P : ka_O → ks_St → Prop} {x1 : Int32} {x2 : Int32} {s0 : Int32}  (k2 : (s0 = 0) → ks_W L xs mX5_bit rm_X5_bit 52 [] [.int x2, .int x1, .ref 17] σ mc ms P) (r3 : (¬ (s0 = 0)) → P (.inl (some (.int 0))) σ) : ks_W L xs mX5_bit rm_X5_bit 44 [(0, .ref 17), (1, .int x1), (2, .int x2)] [.int s0] σ mc ms P := by
  refine ka_if_eq (tgt := 49) d_X5_bit_44 (by decide) rfl (fun c1 => ?_) (fun c1 => ?_)
  · refine ka_aload_n d_X5_bit_49 rfl rfl 0 rfl ?_
    refine ka_iload_n d_X5_bit_50 rfl rfl 1 rfl ?_
    refine ka_iload_n d_X5_bit_51 rfl rfl 2 rfl ?_
    refine ka_sub [] rfl ?_
    exact (k2 c1)
  · refine ka_iconst (v := 0) d_X5_bit_47 rfl (by decide) ?_
    exact ks_iret (ty := .boolean) d_X5_bit_48 rfl rfl (r3 c1)
theorem cs_X5_bit_52 {L : Nat} {xs : Nat → Int32} {σ : ks_St} {mc ms : Nat} {P : ka_O → ks_St → Prop} {f : Int32 → ks_St → Prop} {s1 : Int32} {s2 : Int32} (hK : ks_M L xs mX5_bitOf rm_X5_bitOf [.ref 17, .int s1, .int s2] σ (pi_ f)) (kr : ∀ r σ', f r σ' → ks_W L xs mX5_bit rm_X5_bit 55 [] [.int r] σ' mc ms P) : ks_W L xs mX5_bit rm_X5_bit 52 [] [.int s2, .int s1, .ref 17] σ mc ms P := by
  refine ks_callV (q := 55) (o := 17) (ci := 5) (As := [.int s1, .int s2]) (st := []) d_X5_bit_52 rfl rfl (by decide) rfl rfl lk_X5_72 ⟨by decide, by decide⟩ (Nat.le_of_ble_eq_true rfl) ⟨Nat.le_refl _, Nat.le_refl _⟩ hK (fun v σ' hq => ?_) (fun E σ' hq => ?_)
  · obtain ⟨r, e, hf⟩ := hq; cases e; exact kr r σ' hf
  · obtain ⟨r, e, hf⟩ := hq; cases e
theorem sg_X5_bit_55 {L : Nat} {xs : Nat → Int32} {σ : ks_St} {mc ms : Nat} {P : ka_O → ks_St → Prop} {s0 : Int32}  (k2 : (¬ s0 = 1) → ks_W L xs mX5_bit rm_X5_bit 64 [] [.int 0] σ mc ms P) (k3 : (s0 = 1) → ks_W L xs mX5_bit rm_X5_bit 64 [] [.int 1] σ mc ms P) : ks_W L xs mX5_bit rm_X5_bit 55 [] [.int s0] σ mc ms P := by
  refine ka_iconst (v := 1) d_X5_bit_55 rfl (by decide) ?_
  refine ka_icmp_ne (tgt := 63) d_X5_bit_56 (by decide) rfl (fun c1 => ?_) (fun c1 => ?_)
  · refine ka_iconst (v := 0) d_X5_bit_63 rfl (by decide) ?_
    exact (k2 c1)
  · refine ka_iconst (v := 1) d_X5_bit_59 rfl (by decide) ?_
    refine ka_goto (q := 64) d_X5_bit_60 (by decide) ?_
    exact (k3 c1)
theorem sg_X5_bit_64 {L : Nat} {xs : Nat → Int32} {σ : ks_St} {mc ms : Nat} {P : ka_O → ks_St → Prop} {s0 : Int32}  (b1 : narrow .boolean (.int s0) = .int s0) (r2 : P (.inl (some (.int s0))) σ) : ks_W L xs mX5_bit rm_X5_bit 64 [] [.int s0] σ mc ms P := by
  exact ks_iret (ty := .boolean) d_X5_bit_64 rfl b1 r2
theorem d_X5_count_0 : decode cX5_count 0 = .ok (.aload_n 0, 1) := by decide +kernel
theorem d_X5_count_1 : decode cX5_count 1 = .ok (.aload_n 0, 1) := by decide +kernel
theorem d_X5_count_2 : decode cX5_count 2 = .ok (.iload_n 1, 1) := by decide +kernel
theorem d_X5_count_3 : decode cX5_count 3 = .ok (.invokevirtual 64, 3) := by decide +kernel
theorem d_X5_count_6 : decode cX5_count 6 = .ok (.ifCond .ne 7, 3) := by decide +kernel
theorem d_X5_count_9 : decode cX5_count 9 = .ok (.iconst 1, 1) := by decide +kernel
theorem d_X5_count_10 : decode cX5_count 10 = .ok (.goto 4, 3) := by decide +kernel
theorem d_X5_count_13 : decode cX5_count 13 = .ok (.iconst 0, 1) := by decide +kernel
theorem d_X5_count_14 : decode cX5_count 14 = .ok (.iconst 0, 1) := by decide +kernel
theorem d_X5_count_15 : decode cX5_count 15 = .ok (.iconst 0, 1) := by decide +kernel
theorem d_X5_count_16 : decode cX5_count 16 = .ok (.iconst 0, 1) := by decide +kernel
theorem d_X5_count_17 : decode cX5_count 17 = .ok (.invokevirtual 56, 3) := by decide +kernel
theorem d_X5_count_20 : decode cX5_count 20 = .ok (.ifCond .eq 5, 3) := by decide +kernel
theorem d_X5_count_23 : decode cX5_count 23 = .ok (.iconst 0, 1) := by decide +kernel
theorem d_X5_count_24 : decode cX5_count 24 = .ok (.ireturn, 1) := by decide +kernel
theorem d_X5_count_25 : decode cX5_count 25 = .ok (.iconst 0, 1) := by decide +kernel
theorem d_X5_count_26 : decode cX5_count 26 = .ok (.istore_n 2, 1) := by decide +kernel
theorem d_X5_count_27 : decode cX5_count 27 = .ok (.iconst 0, 1) := by decide +kernel
theorem d_X5_count_28 : decode cX5_count 28 = .ok (.istore_n 3, 1) := by decide +kernel
theorem d_X5_count_29 : decode cX5_count 29 = .ok (.iload_n 3, 1) := by decide +kernel
theorem d_X5_count_30 : decode cX5_count 30 = .ok (.aload_n 0, 1) := by decide +kernel
theorem d_X5_count_31 : decode cX5_count 31 = .ok (.getfield 7, 3) := by decide +kernel
theorem d_X5_count_34 : decode cX5_count 34 = .ok (.iload_n 1, 1) := by decide +kernel
theorem d_X5_count_35 : decode cX5_count 35 = .ok (.iaload, 1) := by decide +kernel
theorem d_X5_count_36 : decode cX5_count 36 = .ok (.if_icmp .ge 18, 3) := by decide +kernel
theorem d_X5_count_39 : decode cX5_count 39 = .ok (.iload_n 2, 1) := by decide +kernel
theorem d_X5_count_40 : decode cX5_count 40 = .ok (.aload_n 0, 1) := by decide +kernel
theorem d_X5_count_41 : decode cX5_count 41 = .ok (.iload_n 1, 1) := by decide +kernel
theorem d_X5_count_42 : decode cX5_count 42 = .ok (.iload_n 3, 1) := by decide +kernel
theorem d_X5_count_43 : decode cX5_count 43 = .ok (.invokevirtual 72, 3) := by decide +kernel
theorem d_X5_count_46 : decode cX5_count 46 = .ok (.iadd, 1) := by decide +kernel
theorem d_X5_count_47 : decode cX5_count 47 = .ok (.istore_n 2, 1) := by decide +kernel
theorem d_X5_count_48 : decode cX5_count 48 = .ok (.iinc 3 1, 3) := by decide +kernel
theorem d_X5_count_51 : decode cX5_count 51 = .ok (.goto (-22), 3) := by decide +kernel
theorem d_X5_count_54 : decode cX5_count 54 = .ok (.iload_n 2, 1) := by decide +kernel
theorem d_X5_count_55 : decode cX5_count 55 = .ok (.ireturn, 1) := by decide +kernel
theorem sg_X5_count_0 {L : Nat} {xs : Nat → Int32} {σ : ks_St} {mc ms : Nat} {P : ka_O → ks_St → Prop} {x1 : Int32}  (k1 : ks_W L xs mX5_count rm_X5_count 3 [(0, .ref 17), (1, .int x1)] [.int x1, .ref 17, .ref 17] σ mc ms P) : ks_W L xs mX5_count rm_X5_count 0 [(0, .ref 17), (1, .int x1)] [] σ mc ms P := by
  refine ka_aload_n d_X5_count_0 rfl rfl 0 rfl ?_
  refine ka_aload_n d_X5_count_1 rfl rfl 0 rfl ?_
  refine ka_iload_n d_X5_count_2 rfl rfl 1 rfl ?_
  exact k1
theorem cs_X5_count_3 {L : Nat} {xs : Nat → Int32} {σ : ks_St} {mc ms : Nat} {P : ka_O → ks_St → Prop} {f : Int32 → ks_St → Prop} {x1 : Int32} {s2 : Int32} (hK : ks_M L xs mX5_isWord rm_X5_isWord [.ref 17, .int s2] σ (pi_ f)) (kr : ∀ r σ', f r σ' → ks_W L xs mX5_count rm_X5_count 6 [(0, .ref 17), (1, .int x1)] [.int r, .ref 17] σ' mc ms P) : ks_W L xs mX5_count rm_X5_count 3 [(0, .ref 17), (1, .int x1)] [.int s2, .ref 17, .ref 17] σ mc ms P := by
  refine ks_callV (q := 6) (o := 17) (ci := 5) (As := [.int s2]) (st := [.ref 17]) d_X5_count_3 rfl rfl (by decide) rfl rfl lk_X5_64 ⟨by decide, by decide⟩ (Nat.le_of_ble_eq_true rfl) ⟨Nat.le_refl _, Nat.le_refl _⟩ hK (fun v σ' hq => ?_) (fun E σ' hq => ?_)
  · obtain ⟨r, e, hf⟩ := hq; cases e; exact kr r σ' hf
  · obtain ⟨r, e, hf⟩ := hq; cases e
theorem sg_X5_count_6 {L : Nat} {xs : Nat → Int32} {σ : ks_St} {mc ms : Nat} {P : ka_O → ks_St → Prop} {x1 : Int32} {s1 : Int32}  (k2 : (¬ s1 = 0) → ks_W L xs mX5_count rm_X5_count 14 [(0, .ref 17), (1, .int x1)] [.int 0, .ref 17] σ mc ms P) (k3 : (s1 = 0) → ks_W L xs mX5_count rm_X5_count 14 [(0, .ref 17), (1, .int x1)] [.int 1, .ref 17] σ mc ms P) : ks_W L xs mX5_count rm_X5_count 6 [(0, .ref 17), (1, .int x1)] [.int s1, .ref 17] σ mc ms P := by
  refine ka_if_ne (tgt := 13) d_X5_count_6 (by decide) rfl (fun c1 => ?_) (fun c1 => ?_)
  · refine ka_iconst (v := 0) d_X5_count_13 rfl (by decide) ?_
    exact (k2 c1)
  · refine ka_iconst (v := 1) d_X5_count_9 rfl (by decide) ?_
    refine ka_goto (q := 14) d_X5_count_10 (by decide) ?_
    exact (k3 c1)
theorem sg_X5_count_14 {L : Nat} {xs : Nat → Int32} {σ : ks_St} {mc ms : Nat} {P : ka_O → ks_St → Prop} {x1 : Int32} {s1 : Int32}  (k1 : ks_W L xs mX5_count rm_X5_count 17 [(0, .ref 17), (1, .int x1)] [.int 0, .int 0, .int 0, .int s1, .ref 17] σ mc ms P) : ks_W L xs mX5_count rm_X5_count 14 [(0, .ref 17), (1, .int x1)] [.int s1, .ref 17] σ mc ms P := by
  refine ka_iconst (v := 0) d_X5_count_14 rfl (by decide) ?_
  refine ka_iconst (v := 0) d_X5_count_15 rfl (by decide) ?_
  refine ka_iconst (v := 0) d_X5_count_16 rfl (by decide) ?_
  exact k1
theorem cs_X5_count_17 {L : Nat} {xs : Nat → Int32} {σ : ks_St} {mc ms : Nat} {P : ka_O → ks_St → Prop} {f : Int32 → ks_St → Prop} {x1 : Int32} {s1 : Int32} {s2 : Int32} {s3 : Int32} {s4 : Int32} (hK : ks_M L xs mX5_throwing rm_X5_throwing [.ref 17, .int s1, .int s2, .int s3, .int s4] σ (pi_ f)) (kr : ∀ r σ', f r σ' → ks_W L xs mX5_count rm_X5_count 20 [(0, .ref 17), (1, .int x1)] [.int r] σ' mc ms P) : ks_W L xs mX5_count rm_X5_count 17 [(0, .ref 17), (1, .int x1)] [.int s4, .int s3, .int s2, .int s1, .ref 17] σ mc ms P := by
  refine ks_callV (q := 20) (o := 17) (ci := 5) (As := [.int s1, .int s2, .int s3, .int s4]) (st := []) d_X5_count_17 rfl rfl (by decide) rfl rfl lk_X5_56 ⟨by decide, by decide⟩ (Nat.le_of_ble_eq_true rfl) ⟨Nat.le_refl _, Nat.le_refl _⟩ hK (fun v σ' hq => ?_) (fun E σ' hq => ?_)
  · obtain ⟨r, e, hf⟩ := hq; cases e; exact kr r σ' hf
  · obtain ⟨r, e, hf⟩ := hq; cases e
theorem sg_X5_count_20 {L : Nat} {xs : Nat → Int32} {σ : ks_St} {mc ms : Nat} {P : ka_O → ks_St → Prop} {x1 : Int32} {s0 : Int32}  (k2 : (s0 = 0) → ks_W L xs mX5_count rm_X5_count 29 [(0, .ref 17), (1, .int x1), (2, .int 0), (3, .int 0)] [] σ mc ms P) (r3 : (¬ (s0 = 0)) → P (.inl (some (.int 0))) σ) : ks_W L xs mX5_count rm_X5_count 20 [(0, .ref 17), (1, .int x1)] [.int s0] σ mc ms P := by
  refine ka_if_eq (tgt := 25) d_X5_count_20 (by decide) rfl (fun c1 => ?_) (fun c1 => ?_)
  · refine ka_iconst (v := 0) d_X5_count_25 rfl (by decide) ?_
    refine ka_istore_n (ls' := [(2, .int 0), (0, .ref 17), (1, .int x1)]) d_X5_count_26 rfl rfl (by decide) rfl ?_
    refine ka_iconst (v := 0) d_X5_count_27 rfl (by decide) ?_
    refine ka_istore_n (ls' := [(3, .int 0), (2, .int 0), (0, .ref 17), (1, .int x1)]) d_X5_count_28 rfl rfl (by decide) rfl ?_
    refine ka_sub [2, 3, 1, 0] rfl ?_
    exact (k2 c1)
  · refine ka_iconst (v := 0) d_X5_count_23 rfl (by decide) ?_
    exact ks_iret (ty := .int) d_X5_count_24 rfl rfl (r3 c1)
theorem sg_X5_count_29 {L : Nat} {xs : Nat → Int32} {σ : ks_St} {mc ms : Nat} {P : ka_O → ks_St → Prop} {x1 : Int32} {x2 : Int32} {x3 : Int32}  (v1 : vp_in x1 600) (r3 : ((sf_ σ 18 x1.toNatClampNeg) ≤ x3) → P (.inl (some (.int x2))) σ) (k4 : (¬ ((sf_ σ 18 x1.toNatClampNeg) ≤ x3)) → ks_W L xs mX5_count rm_X5_count 43 [(0, .ref 17), (1, .int x1), (3, .int x3)] [.int x3, .int x1, .ref 17, .int x2] σ mc ms P) : ks_W L xs mX5_count rm_X5_count 29 [(0, .ref 17), (1, .int x1), (2, .int x2), (3, .int x3)] [] σ mc ms P := by
  refine ka_iload_n d_X5_count_29 rfl rfl 3 rfl ?_
  refine ka_aload_n d_X5_count_30 rfl rfl 0 rfl ?_
  refine gf_X5_3 d_X5_count_31 rfl fl_X5_7 ?_
  refine ka_iload_n d_X5_count_34 rfl rfl 1 rfl ?_
  refine ks_iald row_18 d_X5_count_35 rfl v1 ?_
  refine ka_icmp_ge (tgt := 54) d_X5_count_36 (by decide) rfl (fun c2 => ?_) (fun c2 => ?_)
  · refine ka_iload_n d_X5_count_54 rfl rfl 2 rfl ?_
    exact ks_iret (ty := .int) d_X5_count_55 rfl rfl (r3 c2)
  · refine ka_iload_n d_X5_count_39 rfl rfl 2 rfl ?_
    refine ka_aload_n d_X5_count_40 rfl rfl 0 rfl ?_
    refine ka_iload_n d_X5_count_41 rfl rfl 1 rfl ?_
    refine ka_iload_n d_X5_count_42 rfl rfl 3 rfl ?_
    refine ka_sub [0, 1, 3] rfl ?_
    exact (k4 c2)
theorem cs_X5_count_43 {L : Nat} {xs : Nat → Int32} {σ : ks_St} {mc ms : Nat} {P : ka_O → ks_St → Prop} {f : Int32 → ks_St → Prop} {x1 : Int32} {x3 : Int32} {s0 : Int32} {s2 : Int32} {s3 : Int32} (hK : ks_M L xs mX5_bitOf rm_X5_bitOf [.ref 17, .int s2, .int s3] σ (pi_ f)) (kr : ∀ r σ', f r σ' → ks_W L xs mX5_count rm_X5_count 46 [(0, .ref 17), (1, .int x1), (3, .int x3)] [.int r, .int s0] σ' mc ms P) : ks_W L xs mX5_count rm_X5_count 43 [(0, .ref 17), (1, .int x1), (3, .int x3)] [.int s3, .int s2, .ref 17, .int s0] σ mc ms P := by
  refine ks_callV (q := 46) (o := 17) (ci := 5) (As := [.int s2, .int s3]) (st := [.int s0]) d_X5_count_43 rfl rfl (by decide) rfl rfl lk_X5_72 ⟨by decide, by decide⟩ (Nat.le_of_ble_eq_true rfl) ⟨Nat.le_refl _, Nat.le_refl _⟩ hK (fun v σ' hq => ?_) (fun E σ' hq => ?_)
  · obtain ⟨r, e, hf⟩ := hq; cases e; exact kr r σ' hf
  · obtain ⟨r, e, hf⟩ := hq; cases e
theorem sg_X5_count_46 {L : Nat} {xs : Nat → Int32} {σ : ks_St} {mc ms : Nat} {P : ka_O → ks_St → Prop} {x1 : Int32} {x3 : Int32} {s0 : Int32} {s1 : Int32}  (k1 : ks_W L xs mX5_count rm_X5_count 29 [(0, .ref 17), (1, .int x1), (2, .int (s0 + s1)), (3, .int (x3 + 1))] [] σ mc ms P) : ks_W L xs mX5_count rm_X5_count 46 [(0, .ref 17), (1, .int x1), (3, .int x3)] [.int s1, .int s0] σ mc ms P := by
  refine ka_iadd d_X5_count_46 rfl ?_
  refine ka_istore_n (ls' := [(2, .int (s0 + s1)), (0, .ref 17), (1, .int x1), (3, .int x3)]) d_X5_count_47 rfl rfl (by decide) rfl ?_
  refine ka_iinc (g := 3) (v := x3 + 1) (ls' := [(3, .int (x3 + 1)), (2, .int (s0 + s1)), (0, .ref 17), (1, .int x1)]) d_X5_count_48 rfl rfl rfl (by decide) rfl ?_
  refine ka_goto (q := 29) d_X5_count_51 (by decide) ?_
  refine ka_sub [2, 3, 1, 0] rfl ?_
  exact k1
theorem d_X5_width_0 : decode cX5_width 0 = .ok (.aload_n 0, 1) := by decide +kernel
theorem d_X5_width_1 : decode cX5_width 1 = .ok (.aload_n 0, 1) := by decide +kernel
theorem d_X5_width_2 : decode cX5_width 2 = .ok (.iload_n 1, 1) := by decide +kernel
theorem d_X5_width_3 : decode cX5_width 3 = .ok (.invokevirtual 64, 3) := by decide +kernel
theorem d_X5_width_6 : decode cX5_width 6 = .ok (.ifCond .ne 7, 3) := by decide +kernel
theorem d_X5_width_9 : decode cX5_width 9 = .ok (.iconst 1, 1) := by decide +kernel
theorem d_X5_width_10 : decode cX5_width 10 = .ok (.goto 4, 3) := by decide +kernel
theorem d_X5_width_13 : decode cX5_width 13 = .ok (.iconst 0, 1) := by decide +kernel
theorem d_X5_width_14 : decode cX5_width 14 = .ok (.iconst 0, 1) := by decide +kernel
theorem d_X5_width_15 : decode cX5_width 15 = .ok (.iconst 0, 1) := by decide +kernel
theorem d_X5_width_16 : decode cX5_width 16 = .ok (.iconst 0, 1) := by decide +kernel
theorem d_X5_width_17 : decode cX5_width 17 = .ok (.invokevirtual 56, 3) := by decide +kernel
theorem d_X5_width_20 : decode cX5_width 20 = .ok (.ifCond .eq 7, 3) := by decide +kernel
theorem d_X5_width_23 : decode cX5_width 23 = .ok (.iconst 0, 1) := by decide +kernel
theorem d_X5_width_24 : decode cX5_width 24 = .ok (.goto 9, 3) := by decide +kernel
theorem d_X5_width_27 : decode cX5_width 27 = .ok (.aload_n 0, 1) := by decide +kernel
theorem d_X5_width_28 : decode cX5_width 28 = .ok (.getfield 7, 3) := by decide +kernel
theorem d_X5_width_31 : decode cX5_width 31 = .ok (.iload_n 1, 1) := by decide +kernel
theorem d_X5_width_32 : decode cX5_width 32 = .ok (.iaload, 1) := by decide +kernel
theorem d_X5_width_33 : decode cX5_width 33 = .ok (.ireturn, 1) := by decide +kernel
theorem sg_X5_width_0 {L : Nat} {xs : Nat → Int32} {σ : ks_St} {mc ms : Nat} {P : ka_O → ks_St → Prop} {x1 : Int32}  (k1 : ks_W L xs mX5_width rm_X5_width 3 [(0, .ref 17), (1, .int x1)] [.int x1, .ref 17, .ref 17] σ mc ms P) : ks_W L xs mX5_width rm_X5_width 0 [(0, .ref 17), (1, .int x1)] [] σ mc ms P := by
  refine ka_aload_n d_X5_width_0 rfl rfl 0 rfl ?_
  refine ka_aload_n d_X5_width_1 rfl rfl 0 rfl ?_
  refine ka_iload_n d_X5_width_2 rfl rfl 1 rfl ?_
  exact k1
theorem cs_X5_width_3 {L : Nat} {xs : Nat → Int32} {σ : ks_St} {mc ms : Nat} {P : ka_O → ks_St → Prop} {f : Int32 → ks_St → Prop} {x1 : Int32} {s2 : Int32} (hK : ks_M L xs mX5_isWord rm_X5_isWord [.ref 17, .int s2] σ (pi_ f)) (kr : ∀ r σ', f r σ' → ks_W L xs mX5_width rm_X5_width 6 [(0, .ref 17), (1, .int x1)] [.int r, .ref 17] σ' mc ms P) : ks_W L xs mX5_width rm_X5_width 3 [(0, .ref 17), (1, .int x1)] [.int s2, .ref 17, .ref 17] σ mc ms P := by
  refine ks_callV (q := 6) (o := 17) (ci := 5) (As := [.int s2]) (st := [.ref 17]) d_X5_width_3 rfl rfl (by decide) rfl rfl lk_X5_64 ⟨by decide, by decide⟩ (Nat.le_of_ble_eq_true rfl) ⟨Nat.le_refl _, Nat.le_refl _⟩ hK (fun v σ' hq => ?_) (fun E σ' hq => ?_)
  · obtain ⟨r, e, hf⟩ := hq; cases e; exact kr r σ' hf
  · obtain ⟨r, e, hf⟩ := hq; cases e
theorem sg_X5_width_6 {L : Nat} {xs : Nat → Int32} {σ : ks_St} {mc ms : Nat} {P : ka_O → ks_St → Prop} {x1 : Int32} {s1 : Int32}  (k2 : (¬ s1 = 0) → ks_W L xs mX5_width rm_X5_width 14 [(0, .ref 17), (1, .int x1)] [.int 0, .ref 17] σ mc ms P) (k3 : (s1 = 0) → ks_W L xs mX5_width rm_X5_width 14 [(0, .ref 17), (1, .int x1)] [.int 1, .ref 17] σ mc ms P) : ks_W L xs mX5_width rm_X5_width 6 [(0, .ref 17), (1, .int x1)] [.int s1, .ref 17] σ mc ms P := by
  refine ka_if_ne (tgt := 13) d_X5_width_6 (by decide) rfl (fun c1 => ?_) (fun c1 => ?_)
  · refine ka_iconst (v := 0) d_X5_width_13 rfl (by decide) ?_
    exact (k2 c1)
  · refine ka_iconst (v := 1) d_X5_width_9 rfl (by decide) ?_
    refine ka_goto (q := 14) d_X5_width_10 (by decide) ?_
    exact (k3 c1)
theorem sg_X5_width_14 {L : Nat} {xs : Nat → Int32} {σ : ks_St} {mc ms : Nat} {P : ka_O → ks_St → Prop} {x1 : Int32} {s1 : Int32}  (k1 : ks_W L xs mX5_width rm_X5_width 17 [(0, .ref 17), (1, .int x1)] [.int 0, .int 0, .int 0, .int s1, .ref 17] σ mc ms P) : ks_W L xs mX5_width rm_X5_width 14 [(0, .ref 17), (1, .int x1)] [.int s1, .ref 17] σ mc ms P := by
  refine ka_iconst (v := 0) d_X5_width_14 rfl (by decide) ?_
  refine ka_iconst (v := 0) d_X5_width_15 rfl (by decide) ?_
  refine ka_iconst (v := 0) d_X5_width_16 rfl (by decide) ?_
  exact k1
theorem cs_X5_width_17 {L : Nat} {xs : Nat → Int32} {σ : ks_St} {mc ms : Nat} {P : ka_O → ks_St → Prop} {f : Int32 → ks_St → Prop} {x1 : Int32} {s1 : Int32} {s2 : Int32} {s3 : Int32} {s4 : Int32} (hK : ks_M L xs mX5_throwing rm_X5_throwing [.ref 17, .int s1, .int s2, .int s3, .int s4] σ (pi_ f)) (kr : ∀ r σ', f r σ' → ks_W L xs mX5_width rm_X5_width 20 [(0, .ref 17), (1, .int x1)] [.int r] σ' mc ms P) : ks_W L xs mX5_width rm_X5_width 17 [(0, .ref 17), (1, .int x1)] [.int s4, .int s3, .int s2, .int s1, .ref 17] σ mc ms P := by
  refine ks_callV (q := 20) (o := 17) (ci := 5) (As := [.int s1, .int s2, .int s3, .int s4]) (st := []) d_X5_width_17 rfl rfl (by decide) rfl rfl lk_X5_56 ⟨by decide, by decide⟩ (Nat.le_of_ble_eq_true rfl) ⟨Nat.le_refl _, Nat.le_refl _⟩ hK (fun v σ' hq => ?_) (fun E σ' hq => ?_)
  · obtain ⟨r, e, hf⟩ := hq; cases e; exact kr r σ' hf
  · obtain ⟨r, e, hf⟩ := hq; cases e
theorem sg_X5_width_20 {L : Nat} {xs : Nat → Int32} {σ : ks_St} {mc ms : Nat} {P : ka_O → ks_St → Prop} {x1 : Int32} {s0 : Int32}  (v2 : (s0 = 0) → vp_in x1 600) (k3 : (s0 = 0) → ks_W L xs mX5_width rm_X5_width 33 [] [.int (sf_ σ 18 x1.toNatClampNeg)] σ mc ms P) (k4 : (¬ (s0 = 0)) → ks_W L xs mX5_width rm_X5_width 33 [] [.int 0] σ mc ms P) : ks_W L xs mX5_width rm_X5_width 20 [(0, .ref 17), (1, .int x1)] [.int s0] σ mc ms P := by
  refine ka_if_eq (tgt := 27) d_X5_width_20 (by decide) rfl (fun c1 => ?_) (fun c1 => ?_)
  · refine ka_aload_n d_X5_width_27 rfl rfl 0 rfl ?_
    refine gf_X5_3 d_X5_width_28 rfl fl_X5_7 ?_
    refine ka_iload_n d_X5_width_31 rfl rfl 1 rfl ?_
    refine ks_iald row_18 d_X5_width_32 rfl (v2 c1) ?_
    refine ka_sub [] rfl ?_
    exact (k3 c1)
  · refine ka_iconst (v := 0) d_X5_width_23 rfl (by decide) ?_
    refine ka_goto (q := 33) d_X5_width_24 (by decide) ?_
    refine ka_sub [] rfl ?_
    exact (k4 c1)
theorem sg_X5_width_33 {L : Nat} {xs : Nat → Int32} {σ : ks_St} {mc ms : Nat} {P : ka_O → ks_St → Prop} {s0 : Int32}  (r1 : P (.inl (some (.int s0))) σ) : ks_W L xs mX5_width rm_X5_width 33 [] [.int s0] σ mc ms P := by
  exact ks_iret (ty := .int) d_X5_width_33 rfl rfl r1
theorem d_X5_fractionBits_0 : decode cX5_fractionBits 0 = .ok (.iload_n 0, 1) := by decide +kernel
theorem d_X5_fractionBits_1 : decode cX5_fractionBits 1 = .ok (.bipush 8, 2) := by decide +kernel
theorem d_X5_fractionBits_3 : decode cX5_fractionBits 3 = .ok (.if_icmp .ne 7, 3) := by decide +kernel
theorem d_X5_fractionBits_6 : decode cX5_fractionBits 6 = .ok (.iconst 3, 1) := by decide +kernel
theorem d_X5_fractionBits_7 : decode cX5_fractionBits 7 = .ok (.goto 16, 3) := by decide +kernel
theorem d_X5_fractionBits_10 : decode cX5_fractionBits 10 = .ok (.iload_n 0, 1) := by decide +kernel
theorem d_X5_fractionBits_11 : decode cX5_fractionBits 11 = .ok (.bipush 16, 2) := by decide +kernel
theorem d_X5_fractionBits_13 : decode cX5_fractionBits 13 = .ok (.if_icmp .ne 8, 3) := by decide +kernel
theorem d_X5_fractionBits_16 : decode cX5_fractionBits 16 = .ok (.bipush 10, 2) := by decide +kernel
theorem d_X5_fractionBits_18 : decode cX5_fractionBits 18 = .ok (.goto 5, 3) := by decide +kernel
theorem d_X5_fractionBits_21 : decode cX5_fractionBits 21 = .ok (.bipush 23, 2) := by decide +kernel
theorem d_X5_fractionBits_23 : decode cX5_fractionBits 23 = .ok (.ireturn, 1) := by decide +kernel
theorem sg_X5_fractionBits_0 {L : Nat} {xs : Nat → Int32} {σ : ks_St} {mc ms : Nat} {P : ka_O → ks_St → Prop} {x0 : Int32}  (k3 : (¬ x0 = 8) → (¬ x0 = 16) → ks_W L xs mX5_fractionBits rm_X5_fractionBits 23 [] [.int 23] σ mc ms P) (k4 : (¬ x0 = 8) → (x0 = 16) → ks_W L xs mX5_fractionBits rm_X5_fractionBits 23 [] [.int 10] σ mc ms P) (k5 : (x0 = 8) → ks_W L xs mX5_fractionBits rm_X5_fractionBits 23 [] [.int 3] σ mc ms P) : ks_W L xs mX5_fractionBits rm_X5_fractionBits 0 [(0, .int x0)] [] σ mc ms P := by
  refine ka_iload_n d_X5_fractionBits_0 rfl rfl 0 rfl ?_
  refine ka_bipush (v := 8) d_X5_fractionBits_1 rfl (by decide) ?_
  refine ka_icmp_ne (tgt := 10) d_X5_fractionBits_3 (by decide) rfl (fun c1 => ?_) (fun c1 => ?_)
  · refine ka_iload_n d_X5_fractionBits_10 rfl rfl 0 rfl ?_
    refine ka_bipush (v := 16) d_X5_fractionBits_11 rfl (by decide) ?_
    refine ka_icmp_ne (tgt := 21) d_X5_fractionBits_13 (by decide) rfl (fun c2 => ?_) (fun c2 => ?_)
    · refine ka_bipush (v := 23) d_X5_fractionBits_21 rfl (by decide) ?_
      refine ka_sub [] rfl ?_
      exact (k3 c1 c2)
    · refine ka_bipush (v := 10) d_X5_fractionBits_16 rfl (by decide) ?_
      refine ka_goto (q := 23) d_X5_fractionBits_18 (by decide) ?_
      refine ka_sub [] rfl ?_
      exact (k4 c1 c2)
  · refine ka_iconst (v := 3) d_X5_fractionBits_6 rfl (by decide) ?_
    refine ka_goto (q := 23) d_X5_fractionBits_7 (by decide) ?_
    refine ka_sub [] rfl ?_
    exact (k5 c1)
theorem sg_X5_fractionBits_23 {L : Nat} {xs : Nat → Int32} {σ : ks_St} {mc ms : Nat} {P : ka_O → ks_St → Prop} {s0 : Int32}  (r1 : P (.inl (some (.int s0))) σ) : ks_W L xs mX5_fractionBits rm_X5_fractionBits 23 [] [.int s0] σ mc ms P := by
  exact ks_iret (ty := .int) d_X5_fractionBits_23 rfl rfl r1
theorem d_X5_exponentBits_0 : decode cX5_exponentBits 0 = .ok (.iload_n 0, 1) := by decide +kernel
theorem d_X5_exponentBits_1 : decode cX5_exponentBits 1 = .ok (.bipush 8, 2) := by decide +kernel
theorem d_X5_exponentBits_3 : decode cX5_exponentBits 3 = .ok (.if_icmp .ne 7, 3) := by decide +kernel
theorem d_X5_exponentBits_6 : decode cX5_exponentBits 6 = .ok (.iconst 4, 1) := by decide +kernel
theorem d_X5_exponentBits_7 : decode cX5_exponentBits 7 = .ok (.goto 15, 3) := by decide +kernel
theorem d_X5_exponentBits_10 : decode cX5_exponentBits 10 = .ok (.iload_n 0, 1) := by decide +kernel
theorem d_X5_exponentBits_11 : decode cX5_exponentBits 11 = .ok (.bipush 16, 2) := by decide +kernel
theorem d_X5_exponentBits_13 : decode cX5_exponentBits 13 = .ok (.if_icmp .ne 7, 3) := by decide +kernel
theorem d_X5_exponentBits_16 : decode cX5_exponentBits 16 = .ok (.iconst 5, 1) := by decide +kernel
theorem d_X5_exponentBits_17 : decode cX5_exponentBits 17 = .ok (.goto 5, 3) := by decide +kernel
theorem d_X5_exponentBits_20 : decode cX5_exponentBits 20 = .ok (.bipush 8, 2) := by decide +kernel
theorem d_X5_exponentBits_22 : decode cX5_exponentBits 22 = .ok (.ireturn, 1) := by decide +kernel
theorem sg_X5_exponentBits_0 {L : Nat} {xs : Nat → Int32} {σ : ks_St} {mc ms : Nat} {P : ka_O → ks_St → Prop} {x0 : Int32}  (k3 : (¬ x0 = 8) → (¬ x0 = 16) → ks_W L xs mX5_exponentBits rm_X5_exponentBits 22 [] [.int 8] σ mc ms P) (k4 : (¬ x0 = 8) → (x0 = 16) → ks_W L xs mX5_exponentBits rm_X5_exponentBits 22 [] [.int 5] σ mc ms P) (k5 : (x0 = 8) → ks_W L xs mX5_exponentBits rm_X5_exponentBits 22 [] [.int 4] σ mc ms P) : ks_W L xs mX5_exponentBits rm_X5_exponentBits 0 [(0, .int x0)] [] σ mc ms P := by
  refine ka_iload_n d_X5_exponentBits_0 rfl rfl 0 rfl ?_
  refine ka_bipush (v := 8) d_X5_exponentBits_1 rfl (by decide) ?_
  refine ka_icmp_ne (tgt := 10) d_X5_exponentBits_3 (by decide) rfl (fun c1 => ?_) (fun c1 => ?_)
  · refine ka_iload_n d_X5_exponentBits_10 rfl rfl 0 rfl ?_
    refine ka_bipush (v := 16) d_X5_exponentBits_11 rfl (by decide) ?_
    refine ka_icmp_ne (tgt := 20) d_X5_exponentBits_13 (by decide) rfl (fun c2 => ?_) (fun c2 => ?_)
    · refine ka_bipush (v := 8) d_X5_exponentBits_20 rfl (by decide) ?_
      refine ka_sub [] rfl ?_
      exact (k3 c1 c2)
    · refine ka_iconst (v := 5) d_X5_exponentBits_16 rfl (by decide) ?_
      refine ka_goto (q := 22) d_X5_exponentBits_17 (by decide) ?_
      refine ka_sub [] rfl ?_
      exact (k4 c1 c2)
  · refine ka_iconst (v := 4) d_X5_exponentBits_6 rfl (by decide) ?_
    refine ka_goto (q := 22) d_X5_exponentBits_7 (by decide) ?_
    refine ka_sub [] rfl ?_
    exact (k5 c1)
theorem sg_X5_exponentBits_22 {L : Nat} {xs : Nat → Int32} {σ : ks_St} {mc ms : Nat} {P : ka_O → ks_St → Prop} {s0 : Int32}  (r1 : P (.inl (some (.int s0))) σ) : ks_W L xs mX5_exponentBits rm_X5_exponentBits 22 [] [.int s0] σ mc ms P := by
  exact ks_iret (ty := .int) d_X5_exponentBits_22 rfl rfl r1
theorem d_X5_bias_0 : decode cX5_bias 0 = .ok (.iconst 1, 1) := by decide +kernel
theorem d_X5_bias_1 : decode cX5_bias 1 = .ok (.iload_n 0, 1) := by decide +kernel
theorem d_X5_bias_2 : decode cX5_bias 2 = .ok (.invokestatic 129, 3) := by decide +kernel
theorem d_X5_bias_5 : decode cX5_bias 5 = .ok (.iconst 1, 1) := by decide +kernel
theorem d_X5_bias_6 : decode cX5_bias 6 = .ok (.isub, 1) := by decide +kernel
theorem d_X5_bias_7 : decode cX5_bias 7 = .ok (.ishl, 1) := by decide +kernel
theorem d_X5_bias_8 : decode cX5_bias 8 = .ok (.iconst 1, 1) := by decide +kernel
theorem d_X5_bias_9 : decode cX5_bias 9 = .ok (.isub, 1) := by decide +kernel
theorem d_X5_bias_10 : decode cX5_bias 10 = .ok (.ireturn, 1) := by decide +kernel
theorem sg_X5_bias_0 {L : Nat} {xs : Nat → Int32} {σ : ks_St} {mc ms : Nat} {P : ka_O → ks_St → Prop} {x0 : Int32}  (k1 : ks_W L xs mX5_bias rm_X5_bias 2 [] [.int x0, .int 1] σ mc ms P) : ks_W L xs mX5_bias rm_X5_bias 0 [(0, .int x0)] [] σ mc ms P := by
  refine ka_iconst (v := 1) d_X5_bias_0 rfl (by decide) ?_
  refine ka_iload_n d_X5_bias_1 rfl rfl 0 rfl ?_
  refine ka_sub [] rfl ?_
  exact k1
theorem cs_X5_bias_2 {L : Nat} {xs : Nat → Int32} {σ : ks_St} {mc ms : Nat} {P : ka_O → ks_St → Prop} {f : Int32 → ks_St → Prop} {s0 : Int32} {s1 : Int32} (hK : ks_M L xs mX5_exponentBits rm_X5_exponentBits [.int s1] σ (pi_ f)) (kr : ∀ r σ', f r σ' → ks_W L xs mX5_bias rm_X5_bias 5 [] [.int r, .int s0] σ' mc ms P) : ks_W L xs mX5_bias rm_X5_bias 2 [] [.int s1, .int s0] σ mc ms P := by
  refine ks_callS (q := 5) (As := [.int s1]) (st := [.int s0]) d_X5_bias_2 rfl rfl lk_X5_129 ⟨by decide, by decide⟩ (Nat.le_of_ble_eq_true rfl) ⟨Nat.le_refl _, Nat.le_refl _⟩ hK (fun v σ' hq => ?_) (fun E σ' hq => ?_)
  · obtain ⟨r, e, hf⟩ := hq; cases e; exact kr r σ' hf
  · obtain ⟨r, e, hf⟩ := hq; cases e
theorem sg_X5_bias_5 {L : Nat} {xs : Nat → Int32} {σ : ks_St} {mc ms : Nat} {P : ka_O → ks_St → Prop} {s0 : Int32} {s1 : Int32}  (r1 : P (.inl (some (.int ((s0 <<< ((s1 - 1) &&& 31)) - 1)))) σ) : ks_W L xs mX5_bias rm_X5_bias 5 [] [.int s1, .int s0] σ mc ms P := by
  refine ka_iconst (v := 1) d_X5_bias_5 rfl (by decide) ?_
  refine ka_isub d_X5_bias_6 rfl ?_
  refine ka_ishl d_X5_bias_7 rfl ?_
  refine ka_iconst (v := 1) d_X5_bias_8 rfl (by decide) ?_
  refine ka_isub d_X5_bias_9 rfl ?_
  exact ks_iret (ty := .int) d_X5_bias_10 rfl rfl r1
theorem d_X5_take_0 : decode cX5_take 0 = .ok (.aload_n 0, 1) := by decide +kernel
theorem d_X5_take_1 : decode cX5_take 1 = .ok (.getfield 7, 3) := by decide +kernel
theorem d_X5_take_4 : decode cX5_take 4 = .ok (.iload_n 2, 1) := by decide +kernel
theorem d_X5_take_5 : decode cX5_take 5 = .ok (.iaload, 1) := by decide +kernel
theorem d_X5_take_6 : decode cX5_take 6 = .ok (.istore 4, 2) := by decide +kernel
theorem d_X5_take_8 : decode cX5_take 8 = .ok (.iload 4, 2) := by decide +kernel
theorem d_X5_take_10 : decode cX5_take 10 = .ok (.invokestatic 132, 3) := by decide +kernel
theorem d_X5_take_13 : decode cX5_take 13 = .ok (.istore 5, 2) := by decide +kernel
theorem d_X5_take_15 : decode cX5_take 15 = .ok (.iconst 1, 1) := by decide +kernel
theorem d_X5_take_16 : decode cX5_take 16 = .ok (.iload 4, 2) := by decide +kernel
theorem d_X5_take_18 : decode cX5_take 18 = .ok (.invokestatic 129, 3) := by decide +kernel
theorem d_X5_take_21 : decode cX5_take 21 = .ok (.ishl, 1) := by decide +kernel
theorem d_X5_take_22 : decode cX5_take 22 = .ok (.iconst 1, 1) := by decide +kernel
theorem d_X5_take_23 : decode cX5_take 23 = .ok (.isub, 1) := by decide +kernel
theorem d_X5_take_24 : decode cX5_take 24 = .ok (.istore 6, 2) := by decide +kernel
theorem d_X5_take_26 : decode cX5_take 26 = .ok (.lconst 0, 1) := by decide +kernel
theorem d_X5_take_27 : decode cX5_take 27 = .ok (.lstore 7, 2) := by decide +kernel
theorem d_X5_take_29 : decode cX5_take 29 = .ok (.iconst 0, 1) := by decide +kernel
theorem d_X5_take_30 : decode cX5_take 30 = .ok (.istore 9, 2) := by decide +kernel
theorem d_X5_take_32 : decode cX5_take 32 = .ok (.iload 9, 2) := by decide +kernel
theorem d_X5_take_34 : decode cX5_take 34 = .ok (.iload 4, 2) := by decide +kernel
theorem d_X5_take_36 : decode cX5_take 36 = .ok (.if_icmp .ge 25, 3) := by decide +kernel
theorem d_X5_take_39 : decode cX5_take 39 = .ok (.lload 7, 2) := by decide +kernel
theorem d_X5_take_41 : decode cX5_take 41 = .ok (.aload_n 0, 1) := by decide +kernel
theorem d_X5_take_42 : decode cX5_take 42 = .ok (.iload_n 2, 1) := by decide +kernel
theorem d_X5_take_43 : decode cX5_take 43 = .ok (.iload 9, 2) := by decide +kernel
theorem d_X5_take_45 : decode cX5_take 45 = .ok (.invokevirtual 72, 3) := by decide +kernel
theorem d_X5_take_48 : decode cX5_take 48 = .ok (.i2l, 1) := by decide +kernel
theorem d_X5_take_49 : decode cX5_take 49 = .ok (.iload 9, 2) := by decide +kernel
theorem d_X5_take_51 : decode cX5_take 51 = .ok (.lshl, 1) := by decide +kernel
theorem d_X5_take_52 : decode cX5_take 52 = .ok (.lor, 1) := by decide +kernel
theorem d_X5_take_53 : decode cX5_take 53 = .ok (.lstore 7, 2) := by decide +kernel
theorem d_X5_take_55 : decode cX5_take 55 = .ok (.iinc 9 1, 3) := by decide +kernel
theorem d_X5_take_58 : decode cX5_take 58 = .ok (.goto (-26), 3) := by decide +kernel
theorem d_X5_take_61 : decode cX5_take 61 = .ok (.lload 7, 2) := by decide +kernel
theorem d_X5_take_63 : decode cX5_take 63 = .ok (.lconst 1, 1) := by decide +kernel
theorem d_X5_take_64 : decode cX5_take 64 = .ok (.iload 5, 2) := by decide +kernel
theorem d_X5_take_66 : decode cX5_take 66 = .ok (.lshl, 1) := by decide +kernel
theorem d_X5_take_67 : decode cX5_take 67 = .ok (.lconst 1, 1) := by decide +kernel
theorem d_X5_take_68 : decode cX5_take 68 = .ok (.lsub, 1) := by decide +kernel
theorem d_X5_take_69 : decode cX5_take 69 = .ok (.land, 1) := by decide +kernel
theorem d_X5_take_70 : decode cX5_take 70 = .ok (.lstore 9, 2) := by decide +kernel
theorem d_X5_take_72 : decode cX5_take 72 = .ok (.lload 7, 2) := by decide +kernel
theorem d_X5_take_74 : decode cX5_take 74 = .ok (.iload 5, 2) := by decide +kernel
theorem d_X5_take_76 : decode cX5_take 76 = .ok (.lshr, 1) := by decide +kernel
theorem d_X5_take_77 : decode cX5_take 77 = .ok (.l2i, 1) := by decide +kernel
theorem d_X5_take_78 : decode cX5_take 78 = .ok (.iload 6, 2) := by decide +kernel
theorem d_X5_take_80 : decode cX5_take 80 = .ok (.iand, 1) := by decide +kernel
theorem d_X5_take_81 : decode cX5_take 81 = .ok (.istore 11, 2) := by decide +kernel
theorem d_X5_take_83 : decode cX5_take 83 = .ok (.aload_n 0, 1) := by decide +kernel
theorem d_X5_take_84 : decode cX5_take 84 = .ok (.getfield 36, 3) := by decide +kernel
theorem d_X5_take_87 : decode cX5_take 87 = .ok (.iload_n 1, 1) := by decide +kernel
theorem d_X5_take_88 : decode cX5_take 88 = .ok (.lload 7, 2) := by decide +kernel
theorem d_X5_take_90 : decode cX5_take 90 = .ok (.iload 4, 2) := by decide +kernel
theorem d_X5_take_92 : decode cX5_take 92 = .ok (.iconst 1, 1) := by decide +kernel
theorem d_X5_take_93 : decode cX5_take 93 = .ok (.isub, 1) := by decide +kernel
theorem d_X5_take_94 : decode cX5_take 94 = .ok (.lshr, 1) := by decide +kernel
theorem d_X5_take_95 : decode cX5_take 95 = .ok (.l2i, 1) := by decide +kernel
theorem d_X5_take_96 : decode cX5_take 96 = .ok (.iconst 1, 1) := by decide +kernel
theorem d_X5_take_97 : decode cX5_take 97 = .ok (.iand, 1) := by decide +kernel
theorem d_X5_take_98 : decode cX5_take 98 = .ok (.iload_n 3, 1) := by decide +kernel
theorem d_X5_take_99 : decode cX5_take 99 = .ok (.ifCond .eq 7, 3) := by decide +kernel
theorem d_X5_take_102 : decode cX5_take 102 = .ok (.iconst 1, 1) := by decide +kernel
theorem d_X5_take_103 : decode cX5_take 103 = .ok (.goto 4, 3) := by decide +kernel
theorem d_X5_take_106 : decode cX5_take 106 = .ok (.iconst 0, 1) := by decide +kernel
theorem d_X5_take_107 : decode cX5_take 107 = .ok (.ixor, 1) := by decide +kernel
theorem d_X5_take_108 : decode cX5_take 108 = .ok (.iastore, 1) := by decide +kernel
theorem d_X5_take_109 : decode cX5_take 109 = .ok (.aload_n 0, 1) := by decide +kernel
theorem d_X5_take_110 : decode cX5_take 110 = .ok (.getfield 33, 3) := by decide +kernel
theorem d_X5_take_113 : decode cX5_take 113 = .ok (.iload_n 1, 1) := by decide +kernel
theorem d_X5_take_114 : decode cX5_take 114 = .ok (.iload 11, 2) := by decide +kernel
theorem d_X5_take_116 : decode cX5_take 116 = .ok (.iload 6, 2) := by decide +kernel
theorem d_X5_take_118 : decode cX5_take 118 = .ok (.if_icmp .ge 7, 3) := by decide +kernel
theorem d_X5_take_121 : decode cX5_take 121 = .ok (.iconst 0, 1) := by decide +kernel
theorem d_X5_take_122 : decode cX5_take 122 = .ok (.goto 15, 3) := by decide +kernel
theorem d_X5_take_125 : decode cX5_take 125 = .ok (.lload 9, 2) := by decide +kernel
theorem d_X5_take_127 : decode cX5_take 127 = .ok (.lconst 0, 1) := by decide +kernel
theorem d_X5_take_128 : decode cX5_take 128 = .ok (.lcmp, 1) := by decide +kernel
theorem d_X5_take_129 : decode cX5_take 129 = .ok (.ifCond .ne 7, 3) := by decide +kernel
theorem d_X5_take_132 : decode cX5_take 132 = .ok (.iconst 1, 1) := by decide +kernel
theorem d_X5_take_133 : decode cX5_take 133 = .ok (.goto 4, 3) := by decide +kernel
theorem d_X5_take_136 : decode cX5_take 136 = .ok (.iconst 2, 1) := by decide +kernel
theorem d_X5_take_137 : decode cX5_take 137 = .ok (.iastore, 1) := by decide +kernel
theorem d_X5_take_138 : decode cX5_take 138 = .ok (.aload_n 0, 1) := by decide +kernel
theorem d_X5_take_139 : decode cX5_take 139 = .ok (.getfield 42, 3) := by decide +kernel
theorem d_X5_take_142 : decode cX5_take 142 = .ok (.iload_n 1, 1) := by decide +kernel
theorem d_X5_take_143 : decode cX5_take 143 = .ok (.iload 11, 2) := by decide +kernel
theorem d_X5_take_145 : decode cX5_take 145 = .ok (.ifCond .ne 8, 3) := by decide +kernel
theorem d_X5_take_148 : decode cX5_take 148 = .ok (.lload 9, 2) := by decide +kernel
theorem d_X5_take_150 : decode cX5_take 150 = .ok (.goto 10, 3) := by decide +kernel
theorem d_X5_take_153 : decode cX5_take 153 = .ok (.lconst 1, 1) := by decide +kernel
theorem d_X5_take_154 : decode cX5_take 154 = .ok (.iload 5, 2) := by decide +kernel
theorem d_X5_take_156 : decode cX5_take 156 = .ok (.lshl, 1) := by decide +kernel
theorem d_X5_take_157 : decode cX5_take 157 = .ok (.lload 9, 2) := by decide +kernel
theorem d_X5_take_159 : decode cX5_take 159 = .ok (.ladd, 1) := by decide +kernel
theorem d_X5_take_160 : decode cX5_take 160 = .ok (.lastore, 1) := by decide +kernel
theorem d_X5_take_161 : decode cX5_take 161 = .ok (.aload_n 0, 1) := by decide +kernel
theorem d_X5_take_162 : decode cX5_take 162 = .ok (.getfield 39, 3) := by decide +kernel
theorem d_X5_take_165 : decode cX5_take 165 = .ok (.iload_n 1, 1) := by decide +kernel
theorem d_X5_take_166 : decode cX5_take 166 = .ok (.iload 11, 2) := by decide +kernel
theorem d_X5_take_168 : decode cX5_take 168 = .ok (.ifCond .ne 7, 3) := by decide +kernel
theorem d_X5_take_171 : decode cX5_take 171 = .ok (.iconst 1, 1) := by decide +kernel
theorem d_X5_take_172 : decode cX5_take 172 = .ok (.goto 5, 3) := by decide +kernel
theorem d_X5_take_175 : decode cX5_take 175 = .ok (.iload 11, 2) := by decide +kernel
theorem d_X5_take_177 : decode cX5_take 177 = .ok (.iload 4, 2) := by decide +kernel
theorem d_X5_take_179 : decode cX5_take 179 = .ok (.invokestatic 135, 3) := by decide +kernel
theorem d_X5_take_182 : decode cX5_take 182 = .ok (.isub, 1) := by decide +kernel
theorem d_X5_take_183 : decode cX5_take 183 = .ok (.iload 5, 2) := by decide +kernel
theorem d_X5_take_185 : decode cX5_take 185 = .ok (.isub, 1) := by decide +kernel
theorem d_X5_take_186 : decode cX5_take 186 = .ok (.iastore, 1) := by decide +kernel
theorem d_X5_take_187 : decode cX5_take 187 = .ok (.return_, 1) := by decide +kernel
theorem sg_X5_take_0 {L : Nat} {xs : Nat → Int32} {σ : ks_St} {mc ms : Nat} {P : ka_O → ks_St → Prop} {x1 : Int32} {x2 : Int32} {x3 : Int32}  (v1 : vp_in x2 600) (k2 : ks_W L xs mX5_take rm_X5_take 10 [(0, .ref 17), (1, .int x1), (2, .int x2), (3, .int x3), (4, .int (sf_ σ 18 x2.toNatClampNeg))] [.int (sf_ σ 18 x2.toNatClampNeg)] σ mc ms P) : ks_W L xs mX5_take rm_X5_take 0 [(0, .ref 17), (1, .int x1), (2, .int x2), (3, .int x3)] [] σ mc ms P := by
  refine ka_aload_n d_X5_take_0 rfl rfl 0 rfl ?_
  refine gf_X5_3 d_X5_take_1 rfl fl_X5_7 ?_
  refine ka_iload_n d_X5_take_4 rfl rfl 2 rfl ?_
  refine ks_iald row_18 d_X5_take_5 rfl v1 ?_
  refine ka_istore (ls' := [(4, .int (sf_ σ 18 x2.toNatClampNeg)), (0, .ref 17), (1, .int x1), (2, .int x2), (3, .int x3)]) d_X5_take_6 rfl (by decide) rfl ?_
  refine ka_iload d_X5_take_8 rfl 0 rfl ?_
  refine ka_sub [1, 2, 3, 4, 0] rfl ?_
  exact k2
theorem cs_X5_take_10 {L : Nat} {xs : Nat → Int32} {σ : ks_St} {mc ms : Nat} {P : ka_O → ks_St → Prop} {f : Int32 → ks_St → Prop} {x1 : Int32} {x2 : Int32} {x3 : Int32} {x4 : Int32} {s0 : Int32} (hK : ks_M L xs mX5_fractionBits rm_X5_fractionBits [.int s0] σ (pi_ f)) (kr : ∀ r σ', f r σ' → ks_W L xs mX5_take rm_X5_take 13 [(0, .ref 17), (1, .int x1), (2, .int x2), (3, .int x3), (4, .int x4)] [.int r] σ' mc ms P) : ks_W L xs mX5_take rm_X5_take 10 [(0, .ref 17), (1, .int x1), (2, .int x2), (3, .int x3), (4, .int x4)] [.int s0] σ mc ms P := by
  refine ks_callS (q := 13) (As := [.int s0]) (st := []) d_X5_take_10 rfl rfl lk_X5_132 ⟨by decide, by decide⟩ (Nat.le_of_ble_eq_true rfl) ⟨Nat.le_refl _, Nat.le_refl _⟩ hK (fun v σ' hq => ?_) (fun E σ' hq => ?_)
  · obtain ⟨r, e, hf⟩ := hq; cases e; exact kr r σ' hf
  · obtain ⟨r, e, hf⟩ := hq; cases e
theorem sg_X5_take_13 {L : Nat} {xs : Nat → Int32} {σ : ks_St} {mc ms : Nat} {P : ka_O → ks_St → Prop} {x1 : Int32} {x2 : Int32} {x3 : Int32} {x4 : Int32} {s0 : Int32}  (k1 : ks_W L xs mX5_take rm_X5_take 18 [(0, .ref 17), (1, .int x1), (2, .int x2), (3, .int x3), (4, .int x4), (5, .int s0)] [.int x4, .int 1] σ mc ms P) : ks_W L xs mX5_take rm_X5_take 13 [(0, .ref 17), (1, .int x1), (2, .int x2), (3, .int x3), (4, .int x4)] [.int s0] σ mc ms P := by
  refine ka_istore (ls' := [(5, .int s0), (0, .ref 17), (1, .int x1), (2, .int x2), (3, .int x3), (4, .int x4)]) d_X5_take_13 rfl (by decide) rfl ?_
  refine ka_iconst (v := 1) d_X5_take_15 rfl (by decide) ?_
  refine ka_iload d_X5_take_16 rfl 5 rfl ?_
  refine ka_sub [1, 2, 3, 4, 5, 0] rfl ?_
  exact k1
theorem cs_X5_take_18 {L : Nat} {xs : Nat → Int32} {σ : ks_St} {mc ms : Nat} {P : ka_O → ks_St → Prop} {f : Int32 → ks_St → Prop} {x1 : Int32} {x2 : Int32} {x3 : Int32} {x4 : Int32} {x5 : Int32} {s0 : Int32} {s1 : Int32} (hK : ks_M L xs mX5_exponentBits rm_X5_exponentBits [.int s1] σ (pi_ f)) (kr : ∀ r σ', f r σ' → ks_W L xs mX5_take rm_X5_take 21 [(0, .ref 17), (1, .int x1), (2, .int x2), (3, .int x3), (4, .int x4), (5, .int x5)] [.int r, .int s0] σ' mc ms P) : ks_W L xs mX5_take rm_X5_take 18 [(0, .ref 17), (1, .int x1), (2, .int x2), (3, .int x3), (4, .int x4), (5, .int x5)] [.int s1, .int s0] σ mc ms P := by
  refine ks_callS (q := 21) (As := [.int s1]) (st := [.int s0]) d_X5_take_18 rfl rfl lk_X5_129 ⟨by decide, by decide⟩ (Nat.le_of_ble_eq_true rfl) ⟨Nat.le_refl _, Nat.le_refl _⟩ hK (fun v σ' hq => ?_) (fun E σ' hq => ?_)
  · obtain ⟨r, e, hf⟩ := hq; cases e; exact kr r σ' hf
  · obtain ⟨r, e, hf⟩ := hq; cases e
theorem sg_X5_take_21 {L : Nat} {xs : Nat → Int32} {σ : ks_St} {mc ms : Nat} {P : ka_O → ks_St → Prop} {x1 : Int32} {x2 : Int32} {x3 : Int32} {x4 : Int32} {x5 : Int32} {s0 : Int32} {s1 : Int32}  (k1 : ks_W L xs mX5_take rm_X5_take 32 [(0, .ref 17), (1, .int x1), (2, .int x2), (3, .int x3), (4, .int x4), (5, .int x5), (6, .int ((s0 <<< (s1 &&& 31)) - 1)), (7, .long 0), (9, .int 0)] [] σ mc ms P) : ks_W L xs mX5_take rm_X5_take 21 [(0, .ref 17), (1, .int x1), (2, .int x2), (3, .int x3), (4, .int x4), (5, .int x5)] [.int s1, .int s0] σ mc ms P := by
  refine ka_ishl d_X5_take_21 rfl ?_
  refine ka_iconst (v := 1) d_X5_take_22 rfl (by decide) ?_
  refine ka_isub d_X5_take_23 rfl ?_
  refine ka_istore (ls' := [(6, .int ((s0 <<< (s1 &&& 31)) - 1)), (0, .ref 17), (1, .int x1), (2, .int x2), (3, .int x3), (4, .int x4), (5, .int x5)]) d_X5_take_24 rfl (by decide) rfl ?_
  refine ka_lconst (v := 0) d_X5_take_26 rfl (by decide) ?_
  refine ka_lstore (ls' := [(7, .long 0), (6, .int ((s0 <<< (s1 &&& 31)) - 1)), (0, .ref 17), (1, .int x1), (2, .int x2), (3, .int x3), (4, .int x4), (5, .int x5)]) d_X5_take_27 rfl (by decide) rfl ?_
  refine ka_iconst (v := 0) d_X5_take_29 rfl (by decide) ?_
  refine ka_istore (ls' := [(9, .int 0), (7, .long 0), (6, .int ((s0 <<< (s1 &&& 31)) - 1)), (0, .ref 17), (1, .int x1), (2, .int x2), (3, .int x3), (4, .int x4), (5, .int x5)]) d_X5_take_30 rfl (by decide) rfl ?_
  refine ka_sub [3, 4, 5, 6, 7, 8, 2, 1, 0] rfl ?_
  exact k1
theorem sg_X5_take_32 {L : Nat} {xs : Nat → Int32} {σ : ks_St} {mc ms : Nat} {P : ka_O → ks_St → Prop} {x1 : Int32} {x2 : Int32} {x3 : Int32} {x4 : Int32} {x5 : Int32} {x6 : Int32} {x7 : Int64} {x9 : Int32}  (k3 : (x4 ≤ x9) → (x3 = 0) → ks_W L xs mX5_take rm_X5_take 107 [(0, .ref 17), (1, .int x1), (4, .int x4), (5, .int x5), (6, .int x6), (9, .long (x7 &&& (((1 : Int64) <<< ((x5).toInt64 &&& 63)) - 1))), (11, .int (((x7 >>> ((x5).toInt64 &&& 63)).toInt32) &&& x6))] [.int 0, .int (((x7 >>> (((x4 - 1)).toInt64 &&& 63)).toInt32) &&& 1), .int x1, .ref 26] σ mc ms P) (k4 : (x4 ≤ x9) → (¬ (x3 = 0)) → ks_W L xs mX5_take rm_X5_take 107 [(0, .ref 17), (1, .int x1), (4, .int x4), (5, .int x5), (6, .int x6), (9, .long (x7 &&& (((1 : Int64) <<< ((x5).toInt64 &&& 63)) - 1))), (11, .int (((x7 >>> ((x5).toInt64 &&& 63)).toInt32) &&& x6))] [.int 1, .int (((x7 >>> (((x4 - 1)).toInt64 &&& 63)).toInt32) &&& 1), .int x1, .ref 26] σ mc ms P) (k5 : (¬ (x4 ≤ x9)) → ks_W L xs mX5_take rm_X5_take 45 [(0, .ref 17), (1, .int x1), (2, .int x2), (3, .int x3), (4, .int x4), (5, .int x5), (6, .int x6), (9, .int x9)] [.int x9, .int x2, .ref 17, .long x7] σ mc ms P) : ks_W L xs mX5_take rm_X5_take 32 [(0, .ref 17), (1, .int x1), (2, .int x2), (3, .int x3), (4, .int x4), (5, .int x5), (6, .int x6), (7, .long x7), (9, .int x9)] [] σ mc ms P := by
  refine ka_iload d_X5_take_32 rfl 8 rfl ?_
  refine ka_iload d_X5_take_34 rfl 4 rfl ?_
  refine ka_icmp_ge (tgt := 61) d_X5_take_36 (by decide) rfl (fun c1 => ?_) (fun c1 => ?_)
  · refine ka_lload d_X5_take_61 rfl 7 rfl ?_
    refine ka_lconst (v := 1) d_X5_take_63 rfl (by decide) ?_
    refine ka_iload d_X5_take_64 rfl 5 rfl ?_
    refine ka_lshl d_X5_take_66 rfl ?_
    refine ka_lconst (v := 1) d_X5_take_67 rfl (by decide) ?_
    refine ka_lsub d_X5_take_68 rfl ?_
    refine ka_land d_X5_take_69 rfl ?_
    refine ka_lstore (ls' := [(9, .long (x7 &&& (((1 : Int64) <<< ((x5).toInt64 &&& 63)) - 1))), (0, .ref 17), (1, .int x1), (2, .int x2), (3, .int x3), (4, .int x4), (5, .int x5), (6, .int x6), (7, .long x7)]) d_X5_take_70 rfl (by decide) rfl ?_
    refine ka_lload d_X5_take_72 rfl 8 rfl ?_
    refine ka_iload d_X5_take_74 rfl 6 rfl ?_
    refine ka_lshr d_X5_take_76 rfl ?_
    refine ka_l2i d_X5_take_77 rfl ?_
    refine ka_iload d_X5_take_78 rfl 7 rfl ?_
    refine ka_iand d_X5_take_80 rfl ?_
    refine ka_istore (ls' := [(11, .int (((x7 >>> ((x5).toInt64 &&& 63)).toInt32) &&& x6)), (9, .long (x7 &&& (((1 : Int64) <<< ((x5).toInt64 &&& 63)) - 1))), (0, .ref 17), (1, .int x1), (2, .int x2), (3, .int x3), (4, .int x4), (5, .int x5), (6, .int x6), (7, .long x7)]) d_X5_take_81 rfl (by decide) rfl ?_
    refine ka_aload_n d_X5_take_83 rfl rfl 2 rfl ?_
    refine gf_X5_12 d_X5_take_84 rfl fl_X5_36 ?_
    refine ka_iload_n d_X5_take_87 rfl rfl 3 rfl ?_
    refine ka_lload d_X5_take_88 rfl 9 rfl ?_
    refine ka_iload d_X5_take_90 rfl 6 rfl ?_
    refine ka_iconst (v := 1) d_X5_take_92 rfl (by decide) ?_
    refine ka_isub d_X5_take_93 rfl ?_
    refine ka_lshr d_X5_take_94 rfl ?_
    refine ka_l2i d_X5_take_95 rfl ?_
    refine ka_iconst (v := 1) d_X5_take_96 rfl (by decide) ?_
    refine ka_iand d_X5_take_97 rfl ?_
    refine ka_iload_n d_X5_take_98 rfl rfl 5 rfl ?_
    refine ka_if_eq (tgt := 106) d_X5_take_99 (by decide) rfl (fun c2 => ?_) (fun c2 => ?_)
    · refine ka_iconst (v := 0) d_X5_take_106 rfl (by decide) ?_
      refine ka_sub [2, 3, 6, 7, 8, 1, 0] rfl ?_
      exact (k3 c1 c2)
    · refine ka_iconst (v := 1) d_X5_take_102 rfl (by decide) ?_
      refine ka_goto (q := 107) d_X5_take_103 (by decide) ?_
      refine ka_sub [2, 3, 6, 7, 8, 1, 0] rfl ?_
      exact (k4 c1 c2)
  · refine ka_lload d_X5_take_39 rfl 7 rfl ?_
    refine ka_aload_n d_X5_take_41 rfl rfl 0 rfl ?_
    refine ka_iload_n d_X5_take_42 rfl rfl 2 rfl ?_
    refine ka_iload d_X5_take_43 rfl 8 rfl ?_
    refine ka_sub [0, 1, 2, 3, 4, 5, 6, 8] rfl ?_
    exact (k5 c1)
theorem cs_X5_take_45 {L : Nat} {xs : Nat → Int32} {σ : ks_St} {mc ms : Nat} {P : ka_O → ks_St → Prop} {f : Int32 → ks_St → Prop} {x1 : Int32} {x2 : Int32} {x3 : Int32} {x4 : Int32} {x5 : Int32} {x6 : Int32} {x9 : Int32} {s0 : Int64} {s2 : Int32} {s3 : Int32} (hK : ks_M L xs mX5_bitOf rm_X5_bitOf [.ref 17, .int s2, .int s3] σ (pi_ f)) (kr : ∀ r σ', f r σ' → ks_W L xs mX5_take rm_X5_take 48 [(0, .ref 17), (1, .int x1), (2, .int x2), (3, .int x3), (4, .int x4), (5, .int x5), (6, .int x6), (9, .int x9)] [.int r, .long s0] σ' mc ms P) : ks_W L xs mX5_take rm_X5_take 45 [(0, .ref 17), (1, .int x1), (2, .int x2), (3, .int x3), (4, .int x4), (5, .int x5), (6, .int x6), (9, .int x9)] [.int s3, .int s2, .ref 17, .long s0] σ mc ms P := by
  refine ks_callV (q := 48) (o := 17) (ci := 5) (As := [.int s2, .int s3]) (st := [.long s0]) d_X5_take_45 rfl rfl (by decide) rfl rfl lk_X5_72 ⟨by decide, by decide⟩ (Nat.le_of_ble_eq_true rfl) ⟨Nat.le_refl _, Nat.le_refl _⟩ hK (fun v σ' hq => ?_) (fun E σ' hq => ?_)
  · obtain ⟨r, e, hf⟩ := hq; cases e; exact kr r σ' hf
  · obtain ⟨r, e, hf⟩ := hq; cases e
theorem sg_X5_take_48 {L : Nat} {xs : Nat → Int32} {σ : ks_St} {mc ms : Nat} {P : ka_O → ks_St → Prop} {x1 : Int32} {x2 : Int32} {x3 : Int32} {x4 : Int32} {x5 : Int32} {x6 : Int32} {x9 : Int32} {s0 : Int64} {s1 : Int32}  (k1 : ks_W L xs mX5_take rm_X5_take 32 [(0, .ref 17), (1, .int x1), (2, .int x2), (3, .int x3), (4, .int x4), (5, .int x5), (6, .int x6), (7, .long (s0 ||| ((s1.toInt64) <<< ((x9).toInt64 &&& 63)))), (9, .int (x9 + 1))] [] σ mc ms P) : ks_W L xs mX5_take rm_X5_take 48 [(0, .ref 17), (1, .int x1), (2, .int x2), (3, .int x3), (4, .int x4), (5, .int x5), (6, .int x6), (9, .int x9)] [.int s1, .long s0] σ mc ms P := by
  refine ka_i2l d_X5_take_48 rfl ?_
  refine ka_iload d_X5_take_49 rfl 7 rfl ?_
  refine ka_lshl d_X5_take_51 rfl ?_
  refine ka_lor d_X5_take_52 rfl ?_
  refine ka_lstore (ls' := [(7, .long (s0 ||| ((s1.toInt64) <<< ((x9).toInt64 &&& 63)))), (0, .ref 17), (1, .int x1), (2, .int x2), (3, .int x3), (4, .int x4), (5, .int x5), (6, .int x6), (9, .int x9)]) d_X5_take_53 rfl (by decide) rfl ?_
  refine ka_iinc (g := 8) (v := x9 + 1) (ls' := [(9, .int (x9 + 1)), (7, .long (s0 ||| ((s1.toInt64) <<< ((x9).toInt64 &&& 63)))), (0, .ref 17), (1, .int x1), (2, .int x2), (3, .int x3), (4, .int x4), (5, .int x5), (6, .int x6)]) d_X5_take_55 rfl rfl rfl (by decide) rfl ?_
  refine ka_goto (q := 32) d_X5_take_58 (by decide) ?_
  refine ka_sub [2, 3, 4, 5, 6, 7, 8, 1, 0] rfl ?_
  exact k1
theorem sg_X5_take_107 {L : Nat} {xs : Nat → Int32} {σ : ks_St} {mc ms : Nat} {P : ka_O → ks_St → Prop} {x1 : Int32} {x4 : Int32} {x5 : Int32} {x6 : Int32} {x9 : Int64} {x11 : Int32} {s1 : Int32} {s2 : Int32} {s3 : Int32}  (v1 : vp_in s1 2) (k4 : (x6 ≤ x11) → (¬ (lg_cmp x9 0) = 0) → ks_W L xs mX5_take rm_X5_take 137 [(0, .ref 17), (1, .int x1), (4, .int x4), (5, .int x5), (9, .long x9), (11, .int x11)] [.int 2, .int x1, .ref 25] (uf_ σ 26 (upd (sf_ σ 26) s1.toNatClampNeg (s2 ^^^ s3))) mc ms P) (k5 : (x6 ≤ x11) → ((lg_cmp x9 0) = 0) → ks_W L xs mX5_take rm_X5_take 137 [(0, .ref 17), (1, .int x1), (4, .int x4), (5, .int x5), (9, .long x9), (11, .int x11)] [.int 1, .int x1, .ref 25] (uf_ σ 26 (upd (sf_ σ 26) s1.toNatClampNeg (s2 ^^^ s3))) mc ms P) (k6 : (¬ (x6 ≤ x11)) → ks_W L xs mX5_take rm_X5_take 137 [(0, .ref 17), (1, .int x1), (4, .int x4), (5, .int x5), (9, .long x9), (11, .int x11)] [.int 0, .int x1, .ref 25] (uf_ σ 26 (upd (sf_ σ 26) s1.toNatClampNeg (s2 ^^^ s3))) mc ms P) : ks_W L xs mX5_take rm_X5_take 107 [(0, .ref 17), (1, .int x1), (4, .int x4), (5, .int x5), (6, .int x6), (9, .long x9), (11, .int x11)] [.int s3, .int s2, .int s1, .ref 26] σ mc ms P := by
  refine ka_ixor d_X5_take_107 rfl ?_
  refine ks_iast row_26 d_X5_take_108 rfl v1 ?_
  refine ka_aload_n d_X5_take_109 rfl rfl 0 rfl ?_
  refine gf_X5_11 d_X5_take_110 rfl fl_X5_33 ?_
  refine ka_iload_n d_X5_take_113 rfl rfl 1 rfl ?_
  refine ka_iload d_X5_take_114 rfl 6 rfl ?_
  refine ka_iload d_X5_take_116 rfl 4 rfl ?_
  refine ka_icmp_ge (tgt := 125) d_X5_take_118 (by decide) rfl (fun c2 => ?_) (fun c2 => ?_)
  · refine ka_lload d_X5_take_125 rfl 5 rfl ?_
    refine ka_lconst (v := 0) d_X5_take_127 rfl (by decide) ?_
    refine ka_lcmp d_X5_take_128 rfl ?_
    refine ka_if_ne (tgt := 136) d_X5_take_129 (by decide) rfl (fun c3 => ?_) (fun c3 => ?_)
    · refine ka_iconst (v := 2) d_X5_take_136 rfl (by decide) ?_
      refine ka_sub [0, 1, 2, 3, 5, 6] rfl ?_
      exact (k4 c2 c3)
    · refine ka_iconst (v := 1) d_X5_take_132 rfl (by decide) ?_
      refine ka_goto (q := 137) d_X5_take_133 (by decide) ?_
      refine ka_sub [0, 1, 2, 3, 5, 6] rfl ?_
      exact (k5 c2 c3)
  · refine ka_iconst (v := 0) d_X5_take_121 rfl (by decide) ?_
    refine ka_goto (q := 137) d_X5_take_122 (by decide) ?_
    refine ka_sub [0, 1, 2, 3, 5, 6] rfl ?_
    exact (k6 c2)
theorem sg_X5_take_137 {L : Nat} {xs : Nat → Int32} {σ : ks_St} {mc ms : Nat} {P : ka_O → ks_St → Prop} {x1 : Int32} {x4 : Int32} {x5 : Int32} {x9 : Int64} {x11 : Int32} {s1 : Int32} {s2 : Int32}  (v1 : vp_in s1 2) (k3 : (¬ x11 = 0) → ks_W L xs mX5_take rm_X5_take 160 [(0, .ref 17), (1, .int x1), (4, .int x4), (5, .int x5), (11, .int x11)] [.long (((1 : Int64) <<< ((x5).toInt64 &&& 63)) + x9), .int x1, .ref 28] (uf_ σ 25 (upd (sf_ σ 25) s1.toNatClampNeg s2)) mc ms P) (k4 : (x11 = 0) → ks_W L xs mX5_take rm_X5_take 160 [(0, .ref 17), (1, .int x1), (4, .int x4), (5, .int x5), (11, .int x11)] [.long x9, .int x1, .ref 28] (uf_ σ 25 (upd (sf_ σ 25) s1.toNatClampNeg s2)) mc ms P) : ks_W L xs mX5_take rm_X5_take 137 [(0, .ref 17), (1, .int x1), (4, .int x4), (5, .int x5), (9, .long x9), (11, .int x11)] [.int s2, .int s1, .ref 25] σ mc ms P := by
  refine ks_iast row_25 d_X5_take_137 rfl v1 ?_
  refine ka_aload_n d_X5_take_138 rfl rfl 0 rfl ?_
  refine gf_X5_14 d_X5_take_139 rfl fl_X5_42 ?_
  refine ka_iload_n d_X5_take_142 rfl rfl 1 rfl ?_
  refine ka_iload d_X5_take_143 rfl 5 rfl ?_
  refine ka_if_ne (tgt := 153) d_X5_take_145 (by decide) rfl (fun c2 => ?_) (fun c2 => ?_)
  · refine ka_lconst (v := 1) d_X5_take_153 rfl (by decide) ?_
    refine ka_iload d_X5_take_154 rfl 3 rfl ?_
    refine ka_lshl d_X5_take_156 rfl ?_
    refine ka_lload d_X5_take_157 rfl 4 rfl ?_
    refine ka_ladd d_X5_take_159 rfl ?_
    refine ka_sub [0, 1, 2, 3, 5] rfl ?_
    exact (k3 c2)
  · refine ka_lload d_X5_take_148 rfl 4 rfl ?_
    refine ka_goto (q := 160) d_X5_take_150 (by decide) ?_
    refine ka_sub [0, 1, 2, 3, 5] rfl ?_
    exact (k4 c2)
theorem sg_X5_take_160 {L : Nat} {xs : Nat → Int32} {σ : ks_St} {mc ms : Nat} {P : ka_O → ks_St → Prop} {x1 : Int32} {x4 : Int32} {x5 : Int32} {x11 : Int32} {s1 : Int32} {s2 : Int64}  (v1 : vp_in s1 2) (k3 : (¬ x11 = 0) → ks_W L xs mX5_take rm_X5_take 177 [(4, .int x4), (5, .int x5)] [.int x11, .int x1, .ref 27] (ug_ σ 28 (vp_updL (sg_ σ 28) s1.toNatClampNeg s2)) mc ms P) (k4 : (x11 = 0) → ks_W L xs mX5_take rm_X5_take 177 [(4, .int x4), (5, .int x5)] [.int 1, .int x1, .ref 27] (ug_ σ 28 (vp_updL (sg_ σ 28) s1.toNatClampNeg s2)) mc ms P) : ks_W L xs mX5_take rm_X5_take 160 [(0, .ref 17), (1, .int x1), (4, .int x4), (5, .int x5), (11, .int x11)] [.long s2, .int s1, .ref 28] σ mc ms P := by
  refine ks_last row_28 d_X5_take_160 rfl v1 ?_
  refine ka_aload_n d_X5_take_161 rfl rfl 0 rfl ?_
  refine gf_X5_13 d_X5_take_162 rfl fl_X5_39 ?_
  refine ka_iload_n d_X5_take_165 rfl rfl 1 rfl ?_
  refine ka_iload d_X5_take_166 rfl 4 rfl ?_
  refine ka_if_ne (tgt := 175) d_X5_take_168 (by decide) rfl (fun c2 => ?_) (fun c2 => ?_)
  · refine ka_iload d_X5_take_175 rfl 4 rfl ?_
    refine ka_sub [2, 3] rfl ?_
    exact (k3 c2)
  · refine ka_iconst (v := 1) d_X5_take_171 rfl (by decide) ?_
    refine ka_goto (q := 177) d_X5_take_172 (by decide) ?_
    refine ka_sub [2, 3] rfl ?_
    exact (k4 c2)
theorem sg_X5_take_177 {L : Nat} {xs : Nat → Int32} {σ : ks_St} {mc ms : Nat} {P : ka_O → ks_St → Prop} {x4 : Int32} {x5 : Int32} {s1 : Int32} {s2 : Int32}  (k1 : ks_W L xs mX5_take rm_X5_take 179 [(5, .int x5)] [.int x4, .int s2, .int s1, .ref 27] σ mc ms P) : ks_W L xs mX5_take rm_X5_take 177 [(4, .int x4), (5, .int x5)] [.int s2, .int s1, .ref 27] σ mc ms P := by
  refine ka_iload d_X5_take_177 rfl 0 rfl ?_
  refine ka_sub [1] rfl ?_
  exact k1
theorem cs_X5_take_179 {L : Nat} {xs : Nat → Int32} {σ : ks_St} {mc ms : Nat} {P : ka_O → ks_St → Prop} {f : Int32 → ks_St → Prop} {x5 : Int32} {s1 : Int32} {s2 : Int32} {s3 : Int32} (hK : ks_M L xs mX5_bias rm_X5_bias [.int s3] σ (pi_ f)) (kr : ∀ r σ', f r σ' → ks_W L xs mX5_take rm_X5_take 182 [(5, .int x5)] [.int r, .int s2, .int s1, .ref 27] σ' mc ms P) : ks_W L xs mX5_take rm_X5_take 179 [(5, .int x5)] [.int s3, .int s2, .int s1, .ref 27] σ mc ms P := by
  refine ks_callS (q := 182) (As := [.int s3]) (st := [.int s2, .int s1, .ref 27]) d_X5_take_179 rfl rfl lk_X5_135 ⟨by decide, by decide⟩ (Nat.le_of_ble_eq_true rfl) ⟨Nat.le_refl _, Nat.le_refl _⟩ hK (fun v σ' hq => ?_) (fun E σ' hq => ?_)
  · obtain ⟨r, e, hf⟩ := hq; cases e; exact kr r σ' hf
  · obtain ⟨r, e, hf⟩ := hq; cases e
theorem sg_X5_take_182 {L : Nat} {xs : Nat → Int32} {σ : ks_St} {mc ms : Nat} {P : ka_O → ks_St → Prop} {x5 : Int32} {s1 : Int32} {s2 : Int32} {s3 : Int32}  (v1 : vp_in s1 2) (r2 : P (.inl none) (uf_ σ 27 (upd (sf_ σ 27) s1.toNatClampNeg ((s2 - s3) - x5)))) : ks_W L xs mX5_take rm_X5_take 182 [(5, .int x5)] [.int s3, .int s2, .int s1, .ref 27] σ mc ms P := by
  refine ka_isub d_X5_take_182 rfl ?_
  refine ka_iload d_X5_take_183 rfl 0 rfl ?_
  refine ka_isub d_X5_take_185 rfl ?_
  refine ks_iast row_27 d_X5_take_186 rfl v1 ?_
  exact ks_vret d_X5_take_187 rfl r2
theorem d_X5_packed_0 : decode cX5_packed 0 = .ok (.iload_n 1, 1) := by decide +kernel
theorem d_X5_packed_1 : decode cX5_packed 1 = .ok (.i2l, 1) := by decide +kernel
theorem d_X5_packed_2 : decode cX5_packed 2 = .ok (.iload_n 0, 1) := by decide +kernel
theorem d_X5_packed_3 : decode cX5_packed 3 = .ok (.iconst 1, 1) := by decide +kernel
theorem d_X5_packed_4 : decode cX5_packed 4 = .ok (.isub, 1) := by decide +kernel
theorem d_X5_packed_5 : decode cX5_packed 5 = .ok (.lshl, 1) := by decide +kernel
theorem d_X5_packed_6 : decode cX5_packed 6 = .ok (.iload_n 2, 1) := by decide +kernel
theorem d_X5_packed_7 : decode cX5_packed 7 = .ok (.i2l, 1) := by decide +kernel
theorem d_X5_packed_8 : decode cX5_packed 8 = .ok (.iload_n 0, 1) := by decide +kernel
theorem d_X5_packed_9 : decode cX5_packed 9 = .ok (.invokestatic 132, 3) := by decide +kernel
theorem d_X5_packed_12 : decode cX5_packed 12 = .ok (.lshl, 1) := by decide +kernel
theorem d_X5_packed_13 : decode cX5_packed 13 = .ok (.lor, 1) := by decide +kernel
theorem d_X5_packed_14 : decode cX5_packed 14 = .ok (.lload_n 3, 1) := by decide +kernel
theorem d_X5_packed_15 : decode cX5_packed 15 = .ok (.lor, 1) := by decide +kernel
theorem d_X5_packed_16 : decode cX5_packed 16 = .ok (.lreturn, 1) := by decide +kernel
theorem sg_X5_packed_0 {L : Nat} {xs : Nat → Int32} {σ : ks_St} {mc ms : Nat} {P : ka_O → ks_St → Prop} {x0 : Int32} {x1 : Int32} {x2 : Int32} {x3 : Int64}  (k1 : ks_W L xs mX5_packed rm_X5_packed 9 [(3, .long x3)] [.int x0, .long (x2.toInt64), .long ((x1.toInt64) <<< (((x0 - 1)).toInt64 &&& 63))] σ mc ms P) : ks_W L xs mX5_packed rm_X5_packed 0 [(0, .int x0), (1, .int x1), (2, .int x2), (3, .long x3)] [] σ mc ms P := by
  refine ka_iload_n d_X5_packed_0 rfl rfl 1 rfl ?_
  refine ka_i2l d_X5_packed_1 rfl ?_
  refine ka_iload_n d_X5_packed_2 rfl rfl 0 rfl ?_
  refine ka_iconst (v := 1) d_X5_packed_3 rfl (by decide) ?_
  refine ka_isub d_X5_packed_4 rfl ?_
  refine ka_lshl d_X5_packed_5 rfl ?_
  refine ka_iload_n d_X5_packed_6 rfl rfl 2 rfl ?_
  refine ka_i2l d_X5_packed_7 rfl ?_
  refine ka_iload_n d_X5_packed_8 rfl rfl 0 rfl ?_
  refine ka_sub [3] rfl ?_
  exact k1
theorem cs_X5_packed_9 {L : Nat} {xs : Nat → Int32} {σ : ks_St} {mc ms : Nat} {P : ka_O → ks_St → Prop} {f : Int32 → ks_St → Prop} {x3 : Int64} {s0 : Int64} {s1 : Int64} {s2 : Int32} (hK : ks_M L xs mX5_fractionBits rm_X5_fractionBits [.int s2] σ (pi_ f)) (kr : ∀ r σ', f r σ' → ks_W L xs mX5_packed rm_X5_packed 12 [(3, .long x3)] [.int r, .long s1, .long s0] σ' mc ms P) : ks_W L xs mX5_packed rm_X5_packed 9 [(3, .long x3)] [.int s2, .long s1, .long s0] σ mc ms P := by
  refine ks_callS (q := 12) (As := [.int s2]) (st := [.long s1, .long s0]) d_X5_packed_9 rfl rfl lk_X5_132 ⟨by decide, by decide⟩ (Nat.le_of_ble_eq_true rfl) ⟨Nat.le_refl _, Nat.le_refl _⟩ hK (fun v σ' hq => ?_) (fun E σ' hq => ?_)
  · obtain ⟨r, e, hf⟩ := hq; cases e; exact kr r σ' hf
  · obtain ⟨r, e, hf⟩ := hq; cases e
theorem sg_X5_packed_12 {L : Nat} {xs : Nat → Int32} {σ : ks_St} {mc ms : Nat} {P : ka_O → ks_St → Prop} {x3 : Int64} {s0 : Int64} {s1 : Int64} {s2 : Int32}  (r1 : P (.inl (some (.long ((s0 ||| (s1 <<< ((s2).toInt64 &&& 63))) ||| x3)))) σ) : ks_W L xs mX5_packed rm_X5_packed 12 [(3, .long x3)] [.int s2, .long s1, .long s0] σ mc ms P := by
  refine ka_lshl d_X5_packed_12 rfl ?_
  refine ka_lor d_X5_packed_13 rfl ?_
  refine ka_lload_n d_X5_packed_14 rfl rfl 0 rfl ?_
  refine ka_lor d_X5_packed_15 rfl ?_
  exact ks_lret d_X5_packed_16 rfl r1
theorem d_X5_none_0 : decode cX5_none 0 = .ok (.iload_n 0, 1) := by decide +kernel
theorem d_X5_none_1 : decode cX5_none 1 = .ok (.iconst 0, 1) := by decide +kernel
theorem d_X5_none_2 : decode cX5_none 2 = .ok (.iconst 1, 1) := by decide +kernel
theorem d_X5_none_3 : decode cX5_none 3 = .ok (.iload_n 0, 1) := by decide +kernel
theorem d_X5_none_4 : decode cX5_none 4 = .ok (.invokestatic 129, 3) := by decide +kernel
theorem d_X5_none_7 : decode cX5_none 7 = .ok (.ishl, 1) := by decide +kernel
theorem d_X5_none_8 : decode cX5_none 8 = .ok (.iconst 1, 1) := by decide +kernel
theorem d_X5_none_9 : decode cX5_none 9 = .ok (.isub, 1) := by decide +kernel
theorem d_X5_none_10 : decode cX5_none 10 = .ok (.lconst 1, 1) := by decide +kernel
theorem d_X5_none_11 : decode cX5_none 11 = .ok (.iload_n 0, 1) := by decide +kernel
theorem d_X5_none_12 : decode cX5_none 12 = .ok (.invokestatic 132, 3) := by decide +kernel
theorem d_X5_none_15 : decode cX5_none 15 = .ok (.iconst 1, 1) := by decide +kernel
theorem d_X5_none_16 : decode cX5_none 16 = .ok (.isub, 1) := by decide +kernel
theorem d_X5_none_17 : decode cX5_none 17 = .ok (.lshl, 1) := by decide +kernel
theorem d_X5_none_18 : decode cX5_none 18 = .ok (.invokestatic 138, 3) := by decide +kernel
theorem d_X5_none_21 : decode cX5_none 21 = .ok (.lreturn, 1) := by decide +kernel
theorem sg_X5_none_0 {L : Nat} {xs : Nat → Int32} {σ : ks_St} {mc ms : Nat} {P : ka_O → ks_St → Prop} {x0 : Int32}  (k1 : ks_W L xs mX5_none rm_X5_none 4 [(0, .int x0)] [.int x0, .int 1, .int 0, .int x0] σ mc ms P) : ks_W L xs mX5_none rm_X5_none 0 [(0, .int x0)] [] σ mc ms P := by
  refine ka_iload_n d_X5_none_0 rfl rfl 0 rfl ?_
  refine ka_iconst (v := 0) d_X5_none_1 rfl (by decide) ?_
  refine ka_iconst (v := 1) d_X5_none_2 rfl (by decide) ?_
  refine ka_iload_n d_X5_none_3 rfl rfl 0 rfl ?_
  exact k1
theorem cs_X5_none_4 {L : Nat} {xs : Nat → Int32} {σ : ks_St} {mc ms : Nat} {P : ka_O → ks_St → Prop} {f : Int32 → ks_St → Prop} {x0 : Int32} {s0 : Int32} {s1 : Int32} {s2 : Int32} {s3 : Int32} (hK : ks_M L xs mX5_exponentBits rm_X5_exponentBits [.int s3] σ (pi_ f)) (kr : ∀ r σ', f r σ' → ks_W L xs mX5_none rm_X5_none 7 [(0, .int x0)] [.int r, .int s2, .int s1, .int s0] σ' mc ms P) : ks_W L xs mX5_none rm_X5_none 4 [(0, .int x0)] [.int s3, .int s2, .int s1, .int s0] σ mc ms P := by
  refine ks_callS (q := 7) (As := [.int s3]) (st := [.int s2, .int s1, .int s0]) d_X5_none_4 rfl rfl lk_X5_129 ⟨by decide, by decide⟩ (Nat.le_of_ble_eq_true rfl) ⟨Nat.le_refl _, Nat.le_refl _⟩ hK (fun v σ' hq => ?_) (fun E σ' hq => ?_)
  · obtain ⟨r, e, hf⟩ := hq; cases e; exact kr r σ' hf
  · obtain ⟨r, e, hf⟩ := hq; cases e
theorem sg_X5_none_7 {L : Nat} {xs : Nat → Int32} {σ : ks_St} {mc ms : Nat} {P : ka_O → ks_St → Prop} {x0 : Int32} {s0 : Int32} {s1 : Int32} {s2 : Int32} {s3 : Int32}  (k1 : ks_W L xs mX5_none rm_X5_none 12 [] [.int x0, .long 1, .int ((s2 <<< (s3 &&& 31)) - 1), .int s1, .int s0] σ mc ms P) : ks_W L xs mX5_none rm_X5_none 7 [(0, .int x0)] [.int s3, .int s2, .int s1, .int s0] σ mc ms P := by
  refine ka_ishl d_X5_none_7 rfl ?_
  refine ka_iconst (v := 1) d_X5_none_8 rfl (by decide) ?_
  refine ka_isub d_X5_none_9 rfl ?_
  refine ka_lconst (v := 1) d_X5_none_10 rfl (by decide) ?_
  refine ka_iload_n d_X5_none_11 rfl rfl 0 rfl ?_
  refine ka_sub [] rfl ?_
  exact k1
theorem cs_X5_none_12 {L : Nat} {xs : Nat → Int32} {σ : ks_St} {mc ms : Nat} {P : ka_O → ks_St → Prop} {f : Int32 → ks_St → Prop} {s0 : Int32} {s1 : Int32} {s2 : Int32} {s3 : Int64} {s4 : Int32} (hK : ks_M L xs mX5_fractionBits rm_X5_fractionBits [.int s4] σ (pi_ f)) (kr : ∀ r σ', f r σ' → ks_W L xs mX5_none rm_X5_none 15 [] [.int r, .long s3, .int s2, .int s1, .int s0] σ' mc ms P) : ks_W L xs mX5_none rm_X5_none 12 [] [.int s4, .long s3, .int s2, .int s1, .int s0] σ mc ms P := by
  refine ks_callS (q := 15) (As := [.int s4]) (st := [.long s3, .int s2, .int s1, .int s0]) d_X5_none_12 rfl rfl lk_X5_132 ⟨by decide, by decide⟩ (Nat.le_of_ble_eq_true rfl) ⟨Nat.le_refl _, Nat.le_refl _⟩ hK (fun v σ' hq => ?_) (fun E σ' hq => ?_)
  · obtain ⟨r, e, hf⟩ := hq; cases e; exact kr r σ' hf
  · obtain ⟨r, e, hf⟩ := hq; cases e
theorem sg_X5_none_15 {L : Nat} {xs : Nat → Int32} {σ : ks_St} {mc ms : Nat} {P : ka_O → ks_St → Prop} {s0 : Int32} {s1 : Int32} {s2 : Int32} {s3 : Int64} {s4 : Int32}  (k1 : ks_W L xs mX5_none rm_X5_none 18 [] [.long (s3 <<< (((s4 - 1)).toInt64 &&& 63)), .int s2, .int s1, .int s0] σ mc ms P) : ks_W L xs mX5_none rm_X5_none 15 [] [.int s4, .long s3, .int s2, .int s1, .int s0] σ mc ms P := by
  refine ka_iconst (v := 1) d_X5_none_15 rfl (by decide) ?_
  refine ka_isub d_X5_none_16 rfl ?_
  refine ka_lshl d_X5_none_17 rfl ?_
  exact k1
theorem cs_X5_none_18 {L : Nat} {xs : Nat → Int32} {σ : ks_St} {mc ms : Nat} {P : ka_O → ks_St → Prop} {f : Int64 → ks_St → Prop} {s0 : Int32} {s1 : Int32} {s2 : Int32} {s3 : Int64} (hK : ks_M L xs mX5_packed rm_X5_packed [.int s0, .int s1, .int s2, .long s3] σ (pl_ f)) (kr : ∀ r σ', f r σ' → ks_W L xs mX5_none rm_X5_none 21 [] [.long r] σ' mc ms P) : ks_W L xs mX5_none rm_X5_none 18 [] [.long s3, .int s2, .int s1, .int s0] σ mc ms P := by
  refine ks_callS (q := 21) (As := [.int s0, .int s1, .int s2, .long s3]) (st := []) d_X5_none_18 rfl rfl lk_X5_138 ⟨by decide, by decide⟩ (Nat.le_of_ble_eq_true rfl) ⟨Nat.le_refl _, Nat.le_refl _⟩ hK (fun v σ' hq => ?_) (fun E σ' hq => ?_)
  · obtain ⟨r, e, hf⟩ := hq; cases e; exact kr r σ' hf
  · obtain ⟨r, e, hf⟩ := hq; cases e
theorem sg_X5_none_21 {L : Nat} {xs : Nat → Int32} {σ : ks_St} {mc ms : Nat} {P : ka_O → ks_St → Prop} {s0 : Int64}  (r1 : P (.inl (some (.long s0))) σ) : ks_W L xs mX5_none rm_X5_none 21 [] [.long s0] σ mc ms P := by
  exact ks_lret d_X5_none_21 rfl r1
theorem d_X5_infinite_0 : decode cX5_infinite 0 = .ok (.iload_n 0, 1) := by decide +kernel
theorem d_X5_infinite_1 : decode cX5_infinite 1 = .ok (.iload_n 1, 1) := by decide +kernel
theorem d_X5_infinite_2 : decode cX5_infinite 2 = .ok (.iconst 1, 1) := by decide +kernel
theorem d_X5_infinite_3 : decode cX5_infinite 3 = .ok (.iload_n 0, 1) := by decide +kernel
theorem d_X5_infinite_4 : decode cX5_infinite 4 = .ok (.invokestatic 129, 3) := by decide +kernel
theorem d_X5_infinite_7 : decode cX5_infinite 7 = .ok (.ishl, 1) := by decide +kernel
theorem d_X5_infinite_8 : decode cX5_infinite 8 = .ok (.iconst 1, 1) := by decide +kernel
theorem d_X5_infinite_9 : decode cX5_infinite 9 = .ok (.isub, 1) := by decide +kernel
theorem d_X5_infinite_10 : decode cX5_infinite 10 = .ok (.lconst 0, 1) := by decide +kernel
theorem d_X5_infinite_11 : decode cX5_infinite 11 = .ok (.invokestatic 138, 3) := by decide +kernel
theorem d_X5_infinite_14 : decode cX5_infinite 14 = .ok (.lreturn, 1) := by decide +kernel
theorem sg_X5_infinite_0 {L : Nat} {xs : Nat → Int32} {σ : ks_St} {mc ms : Nat} {P : ka_O → ks_St → Prop} {x0 : Int32} {x1 : Int32}  (k1 : ks_W L xs mX5_infinite rm_X5_infinite 4 [] [.int x0, .int 1, .int x1, .int x0] σ mc ms P) : ks_W L xs mX5_infinite rm_X5_infinite 0 [(0, .int x0), (1, .int x1)] [] σ mc ms P := by
  refine ka_iload_n d_X5_infinite_0 rfl rfl 0 rfl ?_
  refine ka_iload_n d_X5_infinite_1 rfl rfl 1 rfl ?_
  refine ka_iconst (v := 1) d_X5_infinite_2 rfl (by decide) ?_
  refine ka_iload_n d_X5_infinite_3 rfl rfl 0 rfl ?_
  refine ka_sub [] rfl ?_
  exact k1
theorem cs_X5_infinite_4 {L : Nat} {xs : Nat → Int32} {σ : ks_St} {mc ms : Nat} {P : ka_O → ks_St → Prop} {f : Int32 → ks_St → Prop} {s0 : Int32} {s1 : Int32} {s2 : Int32} {s3 : Int32} (hK : ks_M L xs mX5_exponentBits rm_X5_exponentBits [.int s3] σ (pi_ f)) (kr : ∀ r σ', f r σ' → ks_W L xs mX5_infinite rm_X5_infinite 7 [] [.int r, .int s2, .int s1, .int s0] σ' mc ms P) : ks_W L xs mX5_infinite rm_X5_infinite 4 [] [.int s3, .int s2, .int s1, .int s0] σ mc ms P := by
  refine ks_callS (q := 7) (As := [.int s3]) (st := [.int s2, .int s1, .int s0]) d_X5_infinite_4 rfl rfl lk_X5_129 ⟨by decide, by decide⟩ (Nat.le_of_ble_eq_true rfl) ⟨Nat.le_refl _, Nat.le_refl _⟩ hK (fun v σ' hq => ?_) (fun E σ' hq => ?_)
  · obtain ⟨r, e, hf⟩ := hq; cases e; exact kr r σ' hf
  · obtain ⟨r, e, hf⟩ := hq; cases e
theorem sg_X5_infinite_7 {L : Nat} {xs : Nat → Int32} {σ : ks_St} {mc ms : Nat} {P : ka_O → ks_St → Prop} {s0 : Int32} {s1 : Int32} {s2 : Int32} {s3 : Int32}  (k1 : ks_W L xs mX5_infinite rm_X5_infinite 11 [] [.long 0, .int ((s2 <<< (s3 &&& 31)) - 1), .int s1, .int s0] σ mc ms P) : ks_W L xs mX5_infinite rm_X5_infinite 7 [] [.int s3, .int s2, .int s1, .int s0] σ mc ms P := by
  refine ka_ishl d_X5_infinite_7 rfl ?_
  refine ka_iconst (v := 1) d_X5_infinite_8 rfl (by decide) ?_
  refine ka_isub d_X5_infinite_9 rfl ?_
  refine ka_lconst (v := 0) d_X5_infinite_10 rfl (by decide) ?_
  exact k1
theorem cs_X5_infinite_11 {L : Nat} {xs : Nat → Int32} {σ : ks_St} {mc ms : Nat} {P : ka_O → ks_St → Prop} {f : Int64 → ks_St → Prop} {s0 : Int32} {s1 : Int32} {s2 : Int32} {s3 : Int64} (hK : ks_M L xs mX5_packed rm_X5_packed [.int s0, .int s1, .int s2, .long s3] σ (pl_ f)) (kr : ∀ r σ', f r σ' → ks_W L xs mX5_infinite rm_X5_infinite 14 [] [.long r] σ' mc ms P) : ks_W L xs mX5_infinite rm_X5_infinite 11 [] [.long s3, .int s2, .int s1, .int s0] σ mc ms P := by
  refine ks_callS (q := 14) (As := [.int s0, .int s1, .int s2, .long s3]) (st := []) d_X5_infinite_11 rfl rfl lk_X5_138 ⟨by decide, by decide⟩ (Nat.le_of_ble_eq_true rfl) ⟨Nat.le_refl _, Nat.le_refl _⟩ hK (fun v σ' hq => ?_) (fun E σ' hq => ?_)
  · obtain ⟨r, e, hf⟩ := hq; cases e; exact kr r σ' hf
  · obtain ⟨r, e, hf⟩ := hq; cases e
theorem sg_X5_infinite_14 {L : Nat} {xs : Nat → Int32} {σ : ks_St} {mc ms : Nat} {P : ka_O → ks_St → Prop} {s0 : Int64}  (r1 : P (.inl (some (.long s0))) σ) : ks_W L xs mX5_infinite rm_X5_infinite 14 [] [.long s0] σ mc ms P := by
  exact ks_lret d_X5_infinite_14 rfl r1
theorem d_X5_notValid_0 : decode cX5_notValid 0 = .ok (.aload_n 0, 1) := by decide +kernel
theorem d_X5_notValid_1 : decode cX5_notValid 1 = .ok (.iconst 1, 1) := by decide +kernel
theorem d_X5_notValid_2 : decode cX5_notValid 2 = .ok (.putfield 142, 3) := by decide +kernel
theorem d_X5_notValid_5 : decode cX5_notValid 5 = .ok (.iload_n 1, 1) := by decide +kernel
theorem d_X5_notValid_6 : decode cX5_notValid 6 = .ok (.invokestatic 145, 3) := by decide +kernel
theorem d_X5_notValid_9 : decode cX5_notValid 9 = .ok (.lreturn, 1) := by decide +kernel
theorem sg_X5_notValid_0 {L : Nat} {xs : Nat → Int32} {σ : ks_St} {mc ms : Nat} {P : ka_O → ks_St → Prop} {x1 : Int32}  (k1 : ks_W L xs mX5_notValid rm_X5_notValid 6 [] [.int x1] (ui_ σ 17 1) mc ms P) : ks_W L xs mX5_notValid rm_X5_notValid 0 [(0, .ref 17), (1, .int x1)] [] σ mc ms P := by
  refine ka_aload_n d_X5_notValid_0 rfl rfl 0 rfl ?_
  refine ka_iconst (v := 1) d_X5_notValid_1 rfl (by decide) ?_
  refine pf_X5_6 d_X5_notValid_2 rfl fl_X5_142 ?_
  refine ka_iload_n d_X5_notValid_5 rfl rfl 1 rfl ?_
  refine ka_sub [] rfl ?_
  exact k1
theorem cs_X5_notValid_6 {L : Nat} {xs : Nat → Int32} {σ : ks_St} {mc ms : Nat} {P : ka_O → ks_St → Prop} {f : Int64 → ks_St → Prop} {s0 : Int32} (hK : ks_M L xs mX5_none rm_X5_none [.int s0] σ (pl_ f)) (kr : ∀ r σ', f r σ' → ks_W L xs mX5_notValid rm_X5_notValid 9 [] [.long r] σ' mc ms P) : ks_W L xs mX5_notValid rm_X5_notValid 6 [] [.int s0] σ mc ms P := by
  refine ks_callS (q := 9) (As := [.int s0]) (st := []) d_X5_notValid_6 rfl rfl lk_X5_145 ⟨by decide, by decide⟩ (Nat.le_of_ble_eq_true rfl) ⟨Nat.le_refl _, Nat.le_refl _⟩ hK (fun v σ' hq => ?_) (fun E σ' hq => ?_)
  · obtain ⟨r, e, hf⟩ := hq; cases e; exact kr r σ' hf
  · obtain ⟨r, e, hf⟩ := hq; cases e
theorem sg_X5_notValid_9 {L : Nat} {xs : Nat → Int32} {σ : ks_St} {mc ms : Nat} {P : ka_O → ks_St → Prop} {s0 : Int64}  (r1 : P (.inl (some (.long s0))) σ) : ks_W L xs mX5_notValid rm_X5_notValid 9 [] [.long s0] σ mc ms P := by
  exact ks_lret d_X5_notValid_9 rfl r1
theorem d_X5_highest_0 : decode cX5_highest 0 = .ok (.iconst 0, 1) := by decide +kernel
theorem d_X5_highest_1 : decode cX5_highest 1 = .ok (.istore_n 2, 1) := by decide +kernel
theorem d_X5_highest_2 : decode cX5_highest 2 = .ok (.lload_n 0, 1) := by decide +kernel
theorem d_X5_highest_3 : decode cX5_highest 3 = .ok (.iload_n 2, 1) := by decide +kernel
theorem d_X5_highest_4 : decode cX5_highest 4 = .ok (.lshr, 1) := by decide +kernel
theorem d_X5_highest_5 : decode cX5_highest 5 = .ok (.lconst 1, 1) := by decide +kernel
theorem d_X5_highest_6 : decode cX5_highest 6 = .ok (.lcmp, 1) := by decide +kernel
theorem d_X5_highest_7 : decode cX5_highest 7 = .ok (.ifCond .le 9, 3) := by decide +kernel
theorem d_X5_highest_10 : decode cX5_highest 10 = .ok (.iinc 2 1, 3) := by decide +kernel
theorem d_X5_highest_13 : decode cX5_highest 13 = .ok (.goto (-11), 3) := by decide +kernel
theorem d_X5_highest_16 : decode cX5_highest 16 = .ok (.iload_n 2, 1) := by decide +kernel
theorem d_X5_highest_17 : decode cX5_highest 17 = .ok (.ireturn, 1) := by decide +kernel
theorem sg_X5_highest_0 {L : Nat} {xs : Nat → Int32} {σ : ks_St} {mc ms : Nat} {P : ka_O → ks_St → Prop} {x0 : Int64}  (k1 : ks_W L xs mX5_highest rm_X5_highest 2 [(0, .long x0), (2, .int 0)] [] σ mc ms P) : ks_W L xs mX5_highest rm_X5_highest 0 [(0, .long x0)] [] σ mc ms P := by
  refine ka_iconst (v := 0) d_X5_highest_0 rfl (by decide) ?_
  refine ka_istore_n (ls' := [(2, .int 0), (0, .long x0)]) d_X5_highest_1 rfl rfl (by decide) rfl ?_
  refine ka_sub [1, 0] rfl ?_
  exact k1
theorem sg_X5_highest_2 {L : Nat} {xs : Nat → Int32} {σ : ks_St} {mc ms : Nat} {P : ka_O → ks_St → Prop} {x0 : Int64} {x2 : Int32}  (r2 : ((lg_cmp (x0 >>> ((x2).toInt64 &&& 63)) 1) ≤ 0) → P (.inl (some (.int x2))) σ) (k3 : (¬ ((lg_cmp (x0 >>> ((x2).toInt64 &&& 63)) 1) ≤ 0)) → ks_W L xs mX5_highest rm_X5_highest 2 [(0, .long x0), (2, .int (x2 + 1))] [] σ mc ms P) : ks_W L xs mX5_highest rm_X5_highest 2 [(0, .long x0), (2, .int x2)] [] σ mc ms P := by
  refine ka_lload_n d_X5_highest_2 rfl rfl 0 rfl ?_
  refine ka_iload_n d_X5_highest_3 rfl rfl 1 rfl ?_
  refine ka_lshr d_X5_highest_4 rfl ?_
  refine ka_lconst (v := 1) d_X5_highest_5 rfl (by decide) ?_
  refine ka_lcmp d_X5_highest_6 rfl ?_
  refine ka_if_le (tgt := 16) d_X5_highest_7 (by decide) rfl (fun c1 => ?_) (fun c1 => ?_)
  · refine ka_iload_n d_X5_highest_16 rfl rfl 1 rfl ?_
    exact ks_iret (ty := .int) d_X5_highest_17 rfl rfl (r2 c1)
  · refine ka_iinc (g := 1) (v := x2 + 1) (ls' := [(2, .int (x2 + 1)), (0, .long x0)]) d_X5_highest_10 rfl rfl rfl (by decide) rfl ?_
    refine ka_goto (q := 2) d_X5_highest_13 (by decide) ?_
    refine ka_sub [1, 0] rfl ?_
    exact (k3 c1)
theorem d_X5_isMore_0 : decode cX5_isMore 0 = .ok (.iload_n 0, 1) := by decide +kernel
theorem d_X5_isMore_1 : decode cX5_isMore 1 = .ok (.ifCond .ne 29, 3) := by decide +kernel
theorem d_X5_isMore_4 : decode cX5_isMore 4 = .ok (.iload 4, 2) := by decide +kernel
theorem d_X5_isMore_6 : decode cX5_isMore 6 = .ok (.iconst 3, 1) := by decide +kernel
theorem d_X5_isMore_7 : decode cX5_isMore 7 = .ok (.if_icmp .eq 17, 3) := by decide +kernel
theorem d_X5_isMore_10 : decode cX5_isMore 10 = .ok (.iload 4, 2) := by decide +kernel
theorem d_X5_isMore_12 : decode cX5_isMore 12 = .ok (.iconst 2, 1) := by decide +kernel
theorem d_X5_isMore_13 : decode cX5_isMore 13 = .ok (.if_icmp .ne 15, 3) := by decide +kernel
theorem d_X5_isMore_16 : decode cX5_isMore 16 = .ok (.lload_n 2, 1) := by decide +kernel
theorem d_X5_isMore_17 : decode cX5_isMore 17 = .ok (.lconst 1, 1) := by decide +kernel
theorem d_X5_isMore_18 : decode cX5_isMore 18 = .ok (.land, 1) := by decide +kernel
theorem d_X5_isMore_19 : decode cX5_isMore 19 = .ok (.lconst 1, 1) := by decide +kernel
theorem d_X5_isMore_20 : decode cX5_isMore 20 = .ok (.lcmp, 1) := by decide +kernel
theorem d_X5_isMore_21 : decode cX5_isMore 21 = .ok (.ifCond .ne 7, 3) := by decide +kernel
theorem d_X5_isMore_24 : decode cX5_isMore 24 = .ok (.iconst 1, 1) := by decide +kernel
theorem d_X5_isMore_25 : decode cX5_isMore 25 = .ok (.goto 4, 3) := by decide +kernel
theorem d_X5_isMore_28 : decode cX5_isMore 28 = .ok (.iconst 0, 1) := by decide +kernel
theorem d_X5_isMore_29 : decode cX5_isMore 29 = .ok (.ireturn, 1) := by decide +kernel
theorem d_X5_isMore_30 : decode cX5_isMore 30 = .ok (.iload_n 0, 1) := by decide +kernel
theorem d_X5_isMore_31 : decode cX5_isMore 31 = .ok (.iconst 1, 1) := by decide +kernel
theorem d_X5_isMore_32 : decode cX5_isMore 32 = .ok (.if_icmp .ne 5, 3) := by decide +kernel
theorem d_X5_isMore_35 : decode cX5_isMore 35 = .ok (.iconst 0, 1) := by decide +kernel
theorem d_X5_isMore_36 : decode cX5_isMore 36 = .ok (.ireturn, 1) := by decide +kernel
theorem d_X5_isMore_37 : decode cX5_isMore 37 = .ok (.iload_n 0, 1) := by decide +kernel
theorem d_X5_isMore_38 : decode cX5_isMore 38 = .ok (.iconst 4, 1) := by decide +kernel
theorem d_X5_isMore_39 : decode cX5_isMore 39 = .ok (.if_icmp .ne 15, 3) := by decide +kernel
theorem d_X5_isMore_42 : decode cX5_isMore 42 = .ok (.iload 4, 2) := by decide +kernel
theorem d_X5_isMore_44 : decode cX5_isMore 44 = .ok (.iconst 1, 1) := by decide +kernel
theorem d_X5_isMore_45 : decode cX5_isMore 45 = .ok (.if_icmp .le 7, 3) := by decide +kernel
theorem d_X5_isMore_48 : decode cX5_isMore 48 = .ok (.iconst 1, 1) := by decide +kernel
theorem d_X5_isMore_49 : decode cX5_isMore 49 = .ok (.goto 4, 3) := by decide +kernel
theorem d_X5_isMore_52 : decode cX5_isMore 52 = .ok (.iconst 0, 1) := by decide +kernel
theorem d_X5_isMore_53 : decode cX5_isMore 53 = .ok (.ireturn, 1) := by decide +kernel
theorem d_X5_isMore_54 : decode cX5_isMore 54 = .ok (.iload 4, 2) := by decide +kernel
theorem d_X5_isMore_56 : decode cX5_isMore 56 = .ok (.ifCond .le 14, 3) := by decide +kernel
theorem d_X5_isMore_59 : decode cX5_isMore 59 = .ok (.iload_n 1, 1) := by decide +kernel
theorem d_X5_isMore_60 : decode cX5_isMore 60 = .ok (.iload_n 0, 1) := by decide +kernel
theorem d_X5_isMore_61 : decode cX5_isMore 61 = .ok (.iconst 2, 1) := by decide +kernel
theorem d_X5_isMore_62 : decode cX5_isMore 62 = .ok (.isub, 1) := by decide +kernel
theorem d_X5_isMore_63 : decode cX5_isMore 63 = .ok (.if_icmp .ne 7, 3) := by decide +kernel
theorem d_X5_isMore_66 : decode cX5_isMore 66 = .ok (.iconst 1, 1) := by decide +kernel
theorem d_X5_isMore_67 : decode cX5_isMore 67 = .ok (.goto 4, 3) := by decide +kernel
theorem d_X5_isMore_70 : decode cX5_isMore 70 = .ok (.iconst 0, 1) := by decide +kernel
theorem d_X5_isMore_71 : decode cX5_isMore 71 = .ok (.ireturn, 1) := by decide +kernel
theorem sg_X5_isMore_0 {L : Nat} {xs : Nat → Int32} {σ : ks_St} {mc ms : Nat} {P : ka_O → ks_St → Prop} {x0 : Int32} {x1 : Int32} {x2 : Int64} {x4 : Int32}  (k5 : (¬ x0 = 0) → (¬ x0 = 1) → (¬ x0 = 4) → (x4 ≤ 0) → ks_W L xs mX5_isMore rm_X5_isMore 70 [] [] σ mc ms P) (k7 : (¬ x0 = 0) → (¬ x0 = 1) → (¬ x0 = 4) → (¬ (x4 ≤ 0)) → (¬ x1 = (x0 - 2)) → ks_W L xs mX5_isMore rm_X5_isMore 70 [] [] σ mc ms P) (k8 : (¬ x0 = 0) → (¬ x0 = 1) → (¬ x0 = 4) → (¬ (x4 ≤ 0)) → (x1 = (x0 - 2)) → ks_W L xs mX5_isMore rm_X5_isMore 71 [] [.int 1] σ mc ms P) (k10 : (¬ x0 = 0) → (¬ x0 = 1) → (x0 = 4) → (x4 ≤ 1) → ks_W L xs mX5_isMore rm_X5_isMore 53 [] [.int 0] σ mc ms P) (k11 : (¬ x0 = 0) → (¬ x0 = 1) → (x0 = 4) → (¬ (x4 ≤ 1)) → ks_W L xs mX5_isMore rm_X5_isMore 53 [] [.int 1] σ mc ms P) (r12 : (¬ x0 = 0) → (x0 = 1) → P (.inl (some (.int 0))) σ) (k14 : (x0 = 0) → (x4 = 3) → ks_W L xs mX5_isMore rm_X5_isMore 24 [] [] σ mc ms P) (k16 : (x0 = 0) → (¬ (x4 = 3)) → (¬ x4 = 2) → ks_W L xs mX5_isMore rm_X5_isMore 28 [] [] σ mc ms P) (k18 : (x0 = 0) → (¬ (x4 = 3)) → (x4 = 2) → (¬ (lg_cmp (x2 &&& 1) 1) = 0) → ks_W L xs mX5_isMore rm_X5_isMore 28 [] [] σ mc ms P) (k19 : (x0 = 0) → (¬ (x4 = 3)) → (x4 = 2) → ((lg_cmp (x2 &&& 1) 1) = 0) → ks_W L xs mX5_isMore rm_X5_isMore 24 [] [] σ mc ms P) : ks_W L xs mX5_isMore rm_X5_isMore 0 [(0, .int x0), (1, .int x1), (2, .long x2), (4, .int x4)] [] σ mc ms P := by
  refine ka_iload_n d_X5_isMore_0 rfl rfl 0 rfl ?_
  refine ka_if_ne (tgt := 30) d_X5_isMore_1 (by decide) rfl (fun c1 => ?_) (fun c1 => ?_)
  · refine ka_iload_n d_X5_isMore_30 rfl rfl 0 rfl ?_
    refine ka_iconst (v := 1) d_X5_isMore_31 rfl (by decide) ?_
    refine ka_icmp_ne (tgt := 37) d_X5_isMore_32 (by decide) rfl (fun c2 => ?_) (fun c2 => ?_)
    · refine ka_iload_n d_X5_isMore_37 rfl rfl 0 rfl ?_
      refine ka_iconst (v := 4) d_X5_isMore_38 rfl (by decide) ?_
      refine ka_icmp_ne (tgt := 54) d_X5_isMore_39 (by decide) rfl (fun c3 => ?_) (fun c3 => ?_)
      · refine ka_iload d_X5_isMore_54 rfl 3 rfl ?_
        refine ka_if_le (tgt := 70) d_X5_isMore_56 (by decide) rfl (fun c4 => ?_) (fun c4 => ?_)
        · refine ka_sub [] rfl ?_
          exact (k5 c1 c2 c3 c4)
        · refine ka_iload_n d_X5_isMore_59 rfl rfl 1 rfl ?_
          refine ka_iload_n d_X5_isMore_60 rfl rfl 0 rfl ?_
          refine ka_iconst (v := 2) d_X5_isMore_61 rfl (by decide) ?_
          refine ka_isub d_X5_isMore_62 rfl ?_
          refine ka_icmp_ne (tgt := 70) d_X5_isMore_63 (by decide) rfl (fun c6 => ?_) (fun c6 => ?_)
          · refine ka_sub [] rfl ?_
            exact (k7 c1 c2 c3 c4 c6)
          · refine ka_iconst (v := 1) d_X5_isMore_66 rfl (by decide) ?_
            refine ka_goto (q := 71) d_X5_isMore_67 (by decide) ?_
            refine ka_sub [] rfl ?_
            exact (k8 c1 c2 c3 c4 c6)
      · refine ka_iload d_X5_isMore_42 rfl 3 rfl ?_
        refine ka_iconst (v := 1) d_X5_isMore_44 rfl (by decide) ?_
        refine ka_icmp_le (tgt := 52) d_X5_isMore_45 (by decide) rfl (fun c9 => ?_) (fun c9 => ?_)
        · refine ka_iconst (v := 0) d_X5_isMore_52 rfl (by decide) ?_
          refine ka_sub [] rfl ?_
          exact (k10 c1 c2 c3 c9)
        · refine ka_iconst (v := 1) d_X5_isMore_48 rfl (by decide) ?_
          refine ka_goto (q := 53) d_X5_isMore_49 (by decide) ?_
          refine ka_sub [] rfl ?_
          exact (k11 c1 c2 c3 c9)
    · refine ka_iconst (v := 0) d_X5_isMore_35 rfl (by decide) ?_
      exact ks_iret (ty := .boolean) d_X5_isMore_36 rfl rfl (r12 c1 c2)
  · refine ka_iload d_X5_isMore_4 rfl 3 rfl ?_
    refine ka_iconst (v := 3) d_X5_isMore_6 rfl (by decide) ?_
    refine ka_icmp_eq (tgt := 24) d_X5_isMore_7 (by decide) rfl (fun c13 => ?_) (fun c13 => ?_)
    · refine ka_sub [] rfl ?_
      exact (k14 c1 c13)
    · refine ka_iload d_X5_isMore_10 rfl 3 rfl ?_
      refine ka_iconst (v := 2) d_X5_isMore_12 rfl (by decide) ?_
      refine ka_icmp_ne (tgt := 28) d_X5_isMore_13 (by decide) rfl (fun c15 => ?_) (fun c15 => ?_)
      · refine ka_sub [] rfl ?_
        exact (k16 c1 c13 c15)
      · refine ka_lload_n d_X5_isMore_16 rfl rfl 2 rfl ?_
        refine ka_lconst (v := 1) d_X5_isMore_17 rfl (by decide) ?_
        refine ka_land d_X5_isMore_18 rfl ?_
        refine ka_lconst (v := 1) d_X5_isMore_19 rfl (by decide) ?_
        refine ka_lcmp d_X5_isMore_20 rfl ?_
        refine ka_if_ne (tgt := 28) d_X5_isMore_21 (by decide) rfl (fun c17 => ?_) (fun c17 => ?_)
        · refine ka_sub [] rfl ?_
          exact (k18 c1 c13 c15 c17)
        · refine ka_sub [] rfl ?_
          exact (k19 c1 c13 c15 c17)
theorem sg_X5_isMore_24 {L : Nat} {xs : Nat → Int32} {σ : ks_St} {mc ms : Nat} {P : ka_O → ks_St → Prop}   (k1 : ks_W L xs mX5_isMore rm_X5_isMore 29 [] [.int 1] σ mc ms P) : ks_W L xs mX5_isMore rm_X5_isMore 24 [] [] σ mc ms P := by
  refine ka_iconst (v := 1) d_X5_isMore_24 rfl (by decide) ?_
  refine ka_goto (q := 29) d_X5_isMore_25 (by decide) ?_
  exact k1
theorem sg_X5_isMore_28 {L : Nat} {xs : Nat → Int32} {σ : ks_St} {mc ms : Nat} {P : ka_O → ks_St → Prop}   (k1 : ks_W L xs mX5_isMore rm_X5_isMore 29 [] [.int 0] σ mc ms P) : ks_W L xs mX5_isMore rm_X5_isMore 28 [] [] σ mc ms P := by
  refine ka_iconst (v := 0) d_X5_isMore_28 rfl (by decide) ?_
  exact k1
theorem sg_X5_isMore_29 {L : Nat} {xs : Nat → Int32} {σ : ks_St} {mc ms : Nat} {P : ka_O → ks_St → Prop} {s0 : Int32}  (b1 : narrow .boolean (.int s0) = .int s0) (r2 : P (.inl (some (.int s0))) σ) : ks_W L xs mX5_isMore rm_X5_isMore 29 [] [.int s0] σ mc ms P := by
  exact ks_iret (ty := .boolean) d_X5_isMore_29 rfl b1 r2
theorem sg_X5_isMore_53 {L : Nat} {xs : Nat → Int32} {σ : ks_St} {mc ms : Nat} {P : ka_O → ks_St → Prop} {s0 : Int32}  (b1 : narrow .boolean (.int s0) = .int s0) (r2 : P (.inl (some (.int s0))) σ) : ks_W L xs mX5_isMore rm_X5_isMore 53 [] [.int s0] σ mc ms P := by
  exact ks_iret (ty := .boolean) d_X5_isMore_53 rfl b1 r2
theorem sg_X5_isMore_70 {L : Nat} {xs : Nat → Int32} {σ : ks_St} {mc ms : Nat} {P : ka_O → ks_St → Prop}   (k1 : ks_W L xs mX5_isMore rm_X5_isMore 71 [] [.int 0] σ mc ms P) : ks_W L xs mX5_isMore rm_X5_isMore 70 [] [] σ mc ms P := by
  refine ka_iconst (v := 0) d_X5_isMore_70 rfl (by decide) ?_
  exact k1
theorem sg_X5_isMore_71 {L : Nat} {xs : Nat → Int32} {σ : ks_St} {mc ms : Nat} {P : ka_O → ks_St → Prop} {s0 : Int32}  (b1 : narrow .boolean (.int s0) = .int s0) (r2 : P (.inl (some (.int s0))) σ) : ks_W L xs mX5_isMore rm_X5_isMore 71 [] [.int s0] σ mc ms P := by
  exact ks_iret (ty := .boolean) d_X5_isMore_71 rfl b1 r2
theorem d_X5_rounded_0 : decode cX5_rounded 0 = .ok (.iload_n 1, 1) := by decide +kernel
theorem d_X5_rounded_1 : decode cX5_rounded 1 = .ok (.invokestatic 132, 3) := by decide +kernel
theorem d_X5_rounded_4 : decode cX5_rounded 4 = .ok (.istore 7, 2) := by decide +kernel
theorem d_X5_rounded_6 : decode cX5_rounded 6 = .ok (.iconst 1, 1) := by decide +kernel
theorem d_X5_rounded_7 : decode cX5_rounded 7 = .ok (.iload_n 1, 1) := by decide +kernel
theorem d_X5_rounded_8 : decode cX5_rounded 8 = .ok (.invokestatic 135, 3) := by decide +kernel
theorem d_X5_rounded_11 : decode cX5_rounded 11 = .ok (.isub, 1) := by decide +kernel
theorem d_X5_rounded_12 : decode cX5_rounded 12 = .ok (.istore 8, 2) := by decide +kernel
theorem d_X5_rounded_14 : decode cX5_rounded 14 = .ok (.lload_n 3, 1) := by decide +kernel
theorem d_X5_rounded_15 : decode cX5_rounded 15 = .ok (.invokestatic 149, 3) := by decide +kernel
theorem d_X5_rounded_18 : decode cX5_rounded 18 = .ok (.iload 5, 2) := by decide +kernel
theorem d_X5_rounded_20 : decode cX5_rounded 20 = .ok (.iadd, 1) := by decide +kernel
theorem d_X5_rounded_21 : decode cX5_rounded 21 = .ok (.istore 9, 2) := by decide +kernel
theorem d_X5_rounded_23 : decode cX5_rounded 23 = .ok (.iload 9, 2) := by decide +kernel
theorem d_X5_rounded_25 : decode cX5_rounded 25 = .ok (.iload 8, 2) := by decide +kernel
theorem d_X5_rounded_27 : decode cX5_rounded 27 = .ok (.if_icmp .le 8, 3) := by decide +kernel
theorem d_X5_rounded_30 : decode cX5_rounded 30 = .ok (.iload 9, 2) := by decide +kernel
theorem d_X5_rounded_32 : decode cX5_rounded 32 = .ok (.goto 5, 3) := by decide +kernel
theorem d_X5_rounded_35 : decode cX5_rounded 35 = .ok (.iload 8, 2) := by decide +kernel
theorem d_X5_rounded_37 : decode cX5_rounded 37 = .ok (.iload 7, 2) := by decide +kernel
theorem d_X5_rounded_39 : decode cX5_rounded 39 = .ok (.isub, 1) := by decide +kernel
theorem d_X5_rounded_40 : decode cX5_rounded 40 = .ok (.istore 10, 2) := by decide +kernel
theorem d_X5_rounded_42 : decode cX5_rounded 42 = .ok (.iload 10, 2) := by decide +kernel
theorem d_X5_rounded_44 : decode cX5_rounded 44 = .ok (.iload 5, 2) := by decide +kernel
theorem d_X5_rounded_46 : decode cX5_rounded 46 = .ok (.isub, 1) := by decide +kernel
theorem d_X5_rounded_47 : decode cX5_rounded 47 = .ok (.istore 11, 2) := by decide +kernel
theorem d_X5_rounded_49 : decode cX5_rounded 49 = .ok (.iload 11, 2) := by decide +kernel
theorem d_X5_rounded_51 : decode cX5_rounded 51 = .ok (.ifCond .gt 11, 3) := by decide +kernel
theorem d_X5_rounded_54 : decode cX5_rounded 54 = .ok (.lload_n 3, 1) := by decide +kernel
theorem d_X5_rounded_55 : decode cX5_rounded 55 = .ok (.iload 11, 2) := by decide +kernel
theorem d_X5_rounded_57 : decode cX5_rounded 57 = .ok (.ineg, 1) := by decide +kernel
theorem d_X5_rounded_58 : decode cX5_rounded 58 = .ok (.lshl, 1) := by decide +kernel
theorem d_X5_rounded_59 : decode cX5_rounded 59 = .ok (.goto 18, 3) := by decide +kernel
theorem d_X5_rounded_62 : decode cX5_rounded 62 = .ok (.iload 11, 2) := by decide +kernel
theorem d_X5_rounded_64 : decode cX5_rounded 64 = .ok (.bipush 62, 2) := by decide +kernel
theorem d_X5_rounded_66 : decode cX5_rounded 66 = .ok (.if_icmp .le 7, 3) := by decide +kernel
theorem d_X5_rounded_69 : decode cX5_rounded 69 = .ok (.lconst 0, 1) := by decide +kernel
theorem d_X5_rounded_70 : decode cX5_rounded 70 = .ok (.goto 7, 3) := by decide +kernel
theorem d_X5_rounded_73 : decode cX5_rounded 73 = .ok (.lload_n 3, 1) := by decide +kernel
theorem d_X5_rounded_74 : decode cX5_rounded 74 = .ok (.iload 11, 2) := by decide +kernel
theorem d_X5_rounded_76 : decode cX5_rounded 76 = .ok (.lshr, 1) := by decide +kernel
theorem d_X5_rounded_77 : decode cX5_rounded 77 = .ok (.lstore 12, 2) := by decide +kernel
theorem d_X5_rounded_79 : decode cX5_rounded 79 = .ok (.iconst 0, 1) := by decide +kernel
theorem d_X5_rounded_80 : decode cX5_rounded 80 = .ok (.istore 14, 2) := by decide +kernel
theorem d_X5_rounded_82 : decode cX5_rounded 82 = .ok (.iload 11, 2) := by decide +kernel
theorem d_X5_rounded_84 : decode cX5_rounded 84 = .ok (.bipush 62, 2) := by decide +kernel
theorem d_X5_rounded_86 : decode cX5_rounded 86 = .ok (.if_icmp .le 9, 3) := by decide +kernel
theorem d_X5_rounded_89 : decode cX5_rounded 89 = .ok (.iconst 1, 1) := by decide +kernel
theorem d_X5_rounded_90 : decode cX5_rounded 90 = .ok (.istore 14, 2) := by decide +kernel
theorem d_X5_rounded_92 : decode cX5_rounded 92 = .ok (.goto 63, 3) := by decide +kernel
theorem d_X5_rounded_95 : decode cX5_rounded 95 = .ok (.iload 11, 2) := by decide +kernel
theorem d_X5_rounded_97 : decode cX5_rounded 97 = .ok (.ifCond .le 58, 3) := by decide +kernel
theorem d_X5_rounded_100 : decode cX5_rounded 100 = .ok (.lload_n 3, 1) := by decide +kernel
theorem d_X5_rounded_101 : decode cX5_rounded 101 = .ok (.lload 12, 2) := by decide +kernel
theorem d_X5_rounded_103 : decode cX5_rounded 103 = .ok (.iload 11, 2) := by decide +kernel
theorem d_X5_rounded_105 : decode cX5_rounded 105 = .ok (.lshl, 1) := by decide +kernel
theorem d_X5_rounded_106 : decode cX5_rounded 106 = .ok (.lsub, 1) := by decide +kernel
theorem d_X5_rounded_107 : decode cX5_rounded 107 = .ok (.lstore 15, 2) := by decide +kernel
theorem d_X5_rounded_109 : decode cX5_rounded 109 = .ok (.lconst 1, 1) := by decide +kernel
theorem d_X5_rounded_110 : decode cX5_rounded 110 = .ok (.iload 11, 2) := by decide +kernel
theorem d_X5_rounded_112 : decode cX5_rounded 112 = .ok (.iconst 1, 1) := by decide +kernel
theorem d_X5_rounded_113 : decode cX5_rounded 113 = .ok (.isub, 1) := by decide +kernel
theorem d_X5_rounded_114 : decode cX5_rounded 114 = .ok (.lshl, 1) := by decide +kernel
theorem d_X5_rounded_115 : decode cX5_rounded 115 = .ok (.lstore 17, 2) := by decide +kernel
theorem d_X5_rounded_117 : decode cX5_rounded 117 = .ok (.lload 15, 2) := by decide +kernel
theorem d_X5_rounded_119 : decode cX5_rounded 119 = .ok (.lconst 0, 1) := by decide +kernel
theorem d_X5_rounded_120 : decode cX5_rounded 120 = .ok (.lcmp, 1) := by decide +kernel
theorem d_X5_rounded_121 : decode cX5_rounded 121 = .ok (.ifCond .ne 7, 3) := by decide +kernel
theorem d_X5_rounded_124 : decode cX5_rounded 124 = .ok (.iconst 0, 1) := by decide +kernel
theorem d_X5_rounded_125 : decode cX5_rounded 125 = .ok (.goto 28, 3) := by decide +kernel
theorem d_X5_rounded_128 : decode cX5_rounded 128 = .ok (.lload 15, 2) := by decide +kernel
theorem d_X5_rounded_130 : decode cX5_rounded 130 = .ok (.lload 17, 2) := by decide +kernel
theorem d_X5_rounded_132 : decode cX5_rounded 132 = .ok (.lcmp, 1) := by decide +kernel
theorem d_X5_rounded_133 : decode cX5_rounded 133 = .ok (.ifCond .ge 7, 3) := by decide +kernel
theorem d_X5_rounded_136 : decode cX5_rounded 136 = .ok (.iconst 1, 1) := by decide +kernel
theorem d_X5_rounded_137 : decode cX5_rounded 137 = .ok (.goto 16, 3) := by decide +kernel
theorem d_X5_rounded_140 : decode cX5_rounded 140 = .ok (.lload 15, 2) := by decide +kernel
theorem d_X5_rounded_142 : decode cX5_rounded 142 = .ok (.lload 17, 2) := by decide +kernel
theorem d_X5_rounded_144 : decode cX5_rounded 144 = .ok (.lcmp, 1) := by decide +kernel
theorem d_X5_rounded_145 : decode cX5_rounded 145 = .ok (.ifCond .ne 7, 3) := by decide +kernel
theorem d_X5_rounded_148 : decode cX5_rounded 148 = .ok (.iconst 2, 1) := by decide +kernel
theorem d_X5_rounded_149 : decode cX5_rounded 149 = .ok (.goto 4, 3) := by decide +kernel
theorem d_X5_rounded_152 : decode cX5_rounded 152 = .ok (.iconst 3, 1) := by decide +kernel
theorem d_X5_rounded_153 : decode cX5_rounded 153 = .ok (.istore 14, 2) := by decide +kernel
theorem d_X5_rounded_155 : decode cX5_rounded 155 = .ok (.iload 14, 2) := by decide +kernel
theorem d_X5_rounded_157 : decode cX5_rounded 157 = .ok (.ifCond .le 14, 3) := by decide +kernel
theorem d_X5_rounded_160 : decode cX5_rounded 160 = .ok (.aload_n 0, 1) := by decide +kernel
theorem d_X5_rounded_161 : decode cX5_rounded 161 = .ok (.dup, 1) := by decide +kernel
theorem d_X5_rounded_162 : decode cX5_rounded 162 = .ok (.getfield 142, 3) := by decide +kernel
theorem d_X5_rounded_165 : decode cX5_rounded 165 = .ok (.bipush 16, 2) := by decide +kernel
theorem d_X5_rounded_167 : decode cX5_rounded 167 = .ok (.ior, 1) := by decide +kernel
theorem d_X5_rounded_168 : decode cX5_rounded 168 = .ok (.putfield 142, 3) := by decide +kernel
theorem d_X5_rounded_171 : decode cX5_rounded 171 = .ok (.iload 14, 2) := by decide +kernel
theorem d_X5_rounded_173 : decode cX5_rounded 173 = .ok (.ifCond .le 21, 3) := by decide +kernel
theorem d_X5_rounded_176 : decode cX5_rounded 176 = .ok (.iload 9, 2) := by decide +kernel
theorem d_X5_rounded_178 : decode cX5_rounded 178 = .ok (.iload 8, 2) := by decide +kernel
theorem d_X5_rounded_180 : decode cX5_rounded 180 = .ok (.if_icmp .ge 14, 3) := by decide +kernel
theorem d_X5_rounded_183 : decode cX5_rounded 183 = .ok (.aload_n 0, 1) := by decide +kernel
theorem d_X5_rounded_184 : decode cX5_rounded 184 = .ok (.dup, 1) := by decide +kernel
theorem d_X5_rounded_185 : decode cX5_rounded 185 = .ok (.getfield 142, 3) := by decide +kernel
theorem d_X5_rounded_188 : decode cX5_rounded 188 = .ok (.bipush 8, 2) := by decide +kernel
theorem d_X5_rounded_190 : decode cX5_rounded 190 = .ok (.ior, 1) := by decide +kernel
theorem d_X5_rounded_191 : decode cX5_rounded 191 = .ok (.putfield 142, 3) := by decide +kernel
theorem d_X5_rounded_194 : decode cX5_rounded 194 = .ok (.iload 6, 2) := by decide +kernel
theorem d_X5_rounded_196 : decode cX5_rounded 196 = .ok (.iload_n 2, 1) := by decide +kernel
theorem d_X5_rounded_197 : decode cX5_rounded 197 = .ok (.lload 12, 2) := by decide +kernel
theorem d_X5_rounded_199 : decode cX5_rounded 199 = .ok (.iload 14, 2) := by decide +kernel
theorem d_X5_rounded_201 : decode cX5_rounded 201 = .ok (.invokestatic 153, 3) := by decide +kernel
theorem d_X5_rounded_204 : decode cX5_rounded 204 = .ok (.ifCond .eq 9, 3) := by decide +kernel
theorem d_X5_rounded_207 : decode cX5_rounded 207 = .ok (.lload 12, 2) := by decide +kernel
theorem d_X5_rounded_209 : decode cX5_rounded 209 = .ok (.lconst 1, 1) := by decide +kernel
theorem d_X5_rounded_210 : decode cX5_rounded 210 = .ok (.ladd, 1) := by decide +kernel
theorem d_X5_rounded_211 : decode cX5_rounded 211 = .ok (.lstore 12, 2) := by decide +kernel
theorem d_X5_rounded_213 : decode cX5_rounded 213 = .ok (.lload 12, 2) := by decide +kernel
theorem d_X5_rounded_215 : decode cX5_rounded 215 = .ok (.ldc2_w 157, 3) := by decide +kernel
theorem d_X5_rounded_218 : decode cX5_rounded 218 = .ok (.iload 7, 2) := by decide +kernel
theorem d_X5_rounded_220 : decode cX5_rounded 220 = .ok (.lshl, 1) := by decide +kernel
theorem d_X5_rounded_221 : decode cX5_rounded 221 = .ok (.lcmp, 1) := by decide +kernel
theorem d_X5_rounded_222 : decode cX5_rounded 222 = .ok (.ifCond .ne 12, 3) := by decide +kernel
theorem d_X5_rounded_225 : decode cX5_rounded 225 = .ok (.lload 12, 2) := by decide +kernel
theorem d_X5_rounded_227 : decode cX5_rounded 227 = .ok (.iconst 1, 1) := by decide +kernel
theorem d_X5_rounded_228 : decode cX5_rounded 228 = .ok (.lshr, 1) := by decide +kernel
theorem d_X5_rounded_229 : decode cX5_rounded 229 = .ok (.lstore 12, 2) := by decide +kernel
theorem d_X5_rounded_231 : decode cX5_rounded 231 = .ok (.iinc 10 1, 3) := by decide +kernel
theorem d_X5_rounded_234 : decode cX5_rounded 234 = .ok (.iconst 1, 1) := by decide +kernel
theorem d_X5_rounded_235 : decode cX5_rounded 235 = .ok (.iload_n 1, 1) := by decide +kernel
theorem d_X5_rounded_236 : decode cX5_rounded 236 = .ok (.invokestatic 129, 3) := by decide +kernel
theorem d_X5_rounded_239 : decode cX5_rounded 239 = .ok (.ishl, 1) := by decide +kernel
theorem d_X5_rounded_240 : decode cX5_rounded 240 = .ok (.iconst 1, 1) := by decide +kernel
theorem d_X5_rounded_241 : decode cX5_rounded 241 = .ok (.isub, 1) := by decide +kernel
theorem d_X5_rounded_242 : decode cX5_rounded 242 = .ok (.istore 15, 2) := by decide +kernel
theorem d_X5_rounded_244 : decode cX5_rounded 244 = .ok (.lload 12, 2) := by decide +kernel
theorem d_X5_rounded_246 : decode cX5_rounded 246 = .ok (.lconst 1, 1) := by decide +kernel
theorem d_X5_rounded_247 : decode cX5_rounded 247 = .ok (.iload 7, 2) := by decide +kernel
theorem d_X5_rounded_249 : decode cX5_rounded 249 = .ok (.lshl, 1) := by decide +kernel
theorem d_X5_rounded_250 : decode cX5_rounded 250 = .ok (.lcmp, 1) := by decide +kernel
theorem d_X5_rounded_251 : decode cX5_rounded 251 = .ok (.ifCond .ge 12, 3) := by decide +kernel
theorem d_X5_rounded_254 : decode cX5_rounded 254 = .ok (.iload_n 1, 1) := by decide +kernel
theorem d_X5_rounded_255 : decode cX5_rounded 255 = .ok (.iload_n 2, 1) := by decide +kernel
theorem d_X5_rounded_256 : decode cX5_rounded 256 = .ok (.iconst 0, 1) := by decide +kernel
theorem d_X5_rounded_257 : decode cX5_rounded 257 = .ok (.lload 12, 2) := by decide +kernel
theorem d_X5_rounded_259 : decode cX5_rounded 259 = .ok (.invokestatic 138, 3) := by decide +kernel
theorem d_X5_rounded_262 : decode cX5_rounded 262 = .ok (.lreturn, 1) := by decide +kernel
theorem d_X5_rounded_263 : decode cX5_rounded 263 = .ok (.iload 10, 2) := by decide +kernel
theorem d_X5_rounded_265 : decode cX5_rounded 265 = .ok (.iload 7, 2) := by decide +kernel
theorem d_X5_rounded_267 : decode cX5_rounded 267 = .ok (.iadd, 1) := by decide +kernel
theorem d_X5_rounded_268 : decode cX5_rounded 268 = .ok (.iload_n 1, 1) := by decide +kernel
theorem d_X5_rounded_269 : decode cX5_rounded 269 = .ok (.invokestatic 135, 3) := by decide +kernel
theorem d_X5_rounded_272 : decode cX5_rounded 272 = .ok (.iadd, 1) := by decide +kernel
theorem d_X5_rounded_273 : decode cX5_rounded 273 = .ok (.istore 16, 2) := by decide +kernel
theorem d_X5_rounded_275 : decode cX5_rounded 275 = .ok (.iload 16, 2) := by decide +kernel
theorem d_X5_rounded_277 : decode cX5_rounded 277 = .ok (.iload 15, 2) := by decide +kernel
theorem d_X5_rounded_279 : decode cX5_rounded 279 = .ok (.if_icmp .ge 18, 3) := by decide +kernel
theorem d_X5_rounded_282 : decode cX5_rounded 282 = .ok (.iload_n 1, 1) := by decide +kernel
theorem d_X5_rounded_283 : decode cX5_rounded 283 = .ok (.iload_n 2, 1) := by decide +kernel
theorem d_X5_rounded_284 : decode cX5_rounded 284 = .ok (.iload 16, 2) := by decide +kernel
theorem d_X5_rounded_286 : decode cX5_rounded 286 = .ok (.lload 12, 2) := by decide +kernel
theorem d_X5_rounded_288 : decode cX5_rounded 288 = .ok (.lconst 1, 1) := by decide +kernel
theorem d_X5_rounded_289 : decode cX5_rounded 289 = .ok (.iload 7, 2) := by decide +kernel
theorem d_X5_rounded_291 : decode cX5_rounded 291 = .ok (.lshl, 1) := by decide +kernel
theorem d_X5_rounded_292 : decode cX5_rounded 292 = .ok (.lsub, 1) := by decide +kernel
theorem d_X5_rounded_293 : decode cX5_rounded 293 = .ok (.invokestatic 138, 3) := by decide +kernel
theorem d_X5_rounded_296 : decode cX5_rounded 296 = .ok (.lreturn, 1) := by decide +kernel
theorem d_X5_rounded_297 : decode cX5_rounded 297 = .ok (.aload_n 0, 1) := by decide +kernel
theorem d_X5_rounded_298 : decode cX5_rounded 298 = .ok (.dup, 1) := by decide +kernel
theorem d_X5_rounded_299 : decode cX5_rounded 299 = .ok (.getfield 142, 3) := by decide +kernel
theorem d_X5_rounded_302 : decode cX5_rounded 302 = .ok (.bipush 20, 2) := by decide +kernel
theorem d_X5_rounded_304 : decode cX5_rounded 304 = .ok (.ior, 1) := by decide +kernel
theorem d_X5_rounded_305 : decode cX5_rounded 305 = .ok (.putfield 142, 3) := by decide +kernel
theorem d_X5_rounded_308 : decode cX5_rounded 308 = .ok (.iload 6, 2) := by decide +kernel
theorem d_X5_rounded_310 : decode cX5_rounded 310 = .ok (.ifCond .eq 23, 3) := by decide +kernel
theorem d_X5_rounded_313 : decode cX5_rounded 313 = .ok (.iload 6, 2) := by decide +kernel
theorem d_X5_rounded_315 : decode cX5_rounded 315 = .ok (.iconst 4, 1) := by decide +kernel
theorem d_X5_rounded_316 : decode cX5_rounded 316 = .ok (.if_icmp .eq 17, 3) := by decide +kernel
theorem d_X5_rounded_319 : decode cX5_rounded 319 = .ok (.iload 6, 2) := by decide +kernel
theorem d_X5_rounded_321 : decode cX5_rounded 321 = .ok (.iconst 1, 1) := by decide +kernel
theorem d_X5_rounded_322 : decode cX5_rounded 322 = .ok (.if_icmp .le 15, 3) := by decide +kernel
theorem d_X5_rounded_325 : decode cX5_rounded 325 = .ok (.iload_n 2, 1) := by decide +kernel
theorem d_X5_rounded_326 : decode cX5_rounded 326 = .ok (.iload 6, 2) := by decide +kernel
theorem d_X5_rounded_328 : decode cX5_rounded 328 = .ok (.iconst 2, 1) := by decide +kernel
theorem d_X5_rounded_329 : decode cX5_rounded 329 = .ok (.isub, 1) := by decide +kernel
theorem d_X5_rounded_330 : decode cX5_rounded 330 = .ok (.if_icmp .ne 7, 3) := by decide +kernel
theorem d_X5_rounded_333 : decode cX5_rounded 333 = .ok (.iconst 1, 1) := by decide +kernel
theorem d_X5_rounded_334 : decode cX5_rounded 334 = .ok (.goto 4, 3) := by decide +kernel
theorem d_X5_rounded_337 : decode cX5_rounded 337 = .ok (.iconst 0, 1) := by decide +kernel
theorem d_X5_rounded_338 : decode cX5_rounded 338 = .ok (.istore 17, 2) := by decide +kernel
theorem d_X5_rounded_340 : decode cX5_rounded 340 = .ok (.iload 17, 2) := by decide +kernel
theorem d_X5_rounded_342 : decode cX5_rounded 342 = .ok (.ifCond .eq 11, 3) := by decide +kernel
theorem d_X5_rounded_345 : decode cX5_rounded 345 = .ok (.iload_n 1, 1) := by decide +kernel
theorem d_X5_rounded_346 : decode cX5_rounded 346 = .ok (.iload_n 2, 1) := by decide +kernel
theorem d_X5_rounded_347 : decode cX5_rounded 347 = .ok (.invokestatic 159, 3) := by decide +kernel
theorem d_X5_rounded_350 : decode cX5_rounded 350 = .ok (.goto 18, 3) := by decide +kernel
theorem d_X5_rounded_353 : decode cX5_rounded 353 = .ok (.iload_n 1, 1) := by decide +kernel
theorem d_X5_rounded_354 : decode cX5_rounded 354 = .ok (.iload_n 2, 1) := by decide +kernel
theorem d_X5_rounded_355 : decode cX5_rounded 355 = .ok (.iload 15, 2) := by decide +kernel
theorem d_X5_rounded_357 : decode cX5_rounded 357 = .ok (.iconst 1, 1) := by decide +kernel
theorem d_X5_rounded_358 : decode cX5_rounded 358 = .ok (.isub, 1) := by decide +kernel
theorem d_X5_rounded_359 : decode cX5_rounded 359 = .ok (.lconst 1, 1) := by decide +kernel
theorem d_X5_rounded_360 : decode cX5_rounded 360 = .ok (.iload 7, 2) := by decide +kernel
theorem d_X5_rounded_362 : decode cX5_rounded 362 = .ok (.lshl, 1) := by decide +kernel
theorem d_X5_rounded_363 : decode cX5_rounded 363 = .ok (.lconst 1, 1) := by decide +kernel
theorem d_X5_rounded_364 : decode cX5_rounded 364 = .ok (.lsub, 1) := by decide +kernel
theorem d_X5_rounded_365 : decode cX5_rounded 365 = .ok (.invokestatic 138, 3) := by decide +kernel
theorem d_X5_rounded_368 : decode cX5_rounded 368 = .ok (.lreturn, 1) := by decide +kernel
theorem sg_X5_rounded_0 {L : Nat} {xs : Nat → Int32} {σ : ks_St} {mc ms : Nat} {P : ka_O → ks_St → Prop} {x1 : Int32} {x2 : Int32} {x3 : Int64} {x5 : Int32} {x6 : Int32}  (k1 : ks_W L xs mX5_rounded rm_X5_rounded 1 [(0, .ref 17), (1, .int x1), (2, .int x2), (3, .long x3), (5, .int x5), (6, .int x6)] [.int x1] σ mc ms P) : ks_W L xs mX5_rounded rm_X5_rounded 0 [(0, .ref 17), (1, .int x1), (2, .int x2), (3, .long x3), (5, .int x5), (6, .int x6)] [] σ mc ms P := by
  refine ka_iload_n d_X5_rounded_0 rfl rfl 1 rfl ?_
  exact k1
theorem cs_X5_rounded_1 {L : Nat} {xs : Nat → Int32} {σ : ks_St} {mc ms : Nat} {P : ka_O → ks_St → Prop} {f : Int32 → ks_St → Prop} {x1 : Int32} {x2 : Int32} {x3 : Int64} {x5 : Int32} {x6 : Int32} {s0 : Int32} (hK : ks_M L xs mX5_fractionBits rm_X5_fractionBits [.int s0] σ (pi_ f)) (kr : ∀ r σ', f r σ' → ks_W L xs mX5_rounded rm_X5_rounded 4 [(0, .ref 17), (1, .int x1), (2, .int x2), (3, .long x3), (5, .int x5), (6, .int x6)] [.int r] σ' mc ms P) : ks_W L xs mX5_rounded rm_X5_rounded 1 [(0, .ref 17), (1, .int x1), (2, .int x2), (3, .long x3), (5, .int x5), (6, .int x6)] [.int s0] σ mc ms P := by
  refine ks_callS (q := 4) (As := [.int s0]) (st := []) d_X5_rounded_1 rfl rfl lk_X5_132 ⟨by decide, by decide⟩ (Nat.le_of_ble_eq_true rfl) ⟨Nat.le_refl _, Nat.le_refl _⟩ hK (fun v σ' hq => ?_) (fun E σ' hq => ?_)
  · obtain ⟨r, e, hf⟩ := hq; cases e; exact kr r σ' hf
  · obtain ⟨r, e, hf⟩ := hq; cases e
theorem sg_X5_rounded_4 {L : Nat} {xs : Nat → Int32} {σ : ks_St} {mc ms : Nat} {P : ka_O → ks_St → Prop} {x1 : Int32} {x2 : Int32} {x3 : Int64} {x5 : Int32} {x6 : Int32} {s0 : Int32}  (k1 : ks_W L xs mX5_rounded rm_X5_rounded 8 [(0, .ref 17), (1, .int x1), (2, .int x2), (3, .long x3), (5, .int x5), (6, .int x6), (7, .int s0)] [.int x1, .int 1] σ mc ms P) : ks_W L xs mX5_rounded rm_X5_rounded 4 [(0, .ref 17), (1, .int x1), (2, .int x2), (3, .long x3), (5, .int x5), (6, .int x6)] [.int s0] σ mc ms P := by
  refine ka_istore (ls' := [(7, .int s0), (0, .ref 17), (1, .int x1), (2, .int x2), (3, .long x3), (5, .int x5), (6, .int x6)]) d_X5_rounded_4 rfl (by decide) rfl ?_
  refine ka_iconst (v := 1) d_X5_rounded_6 rfl (by decide) ?_
  refine ka_iload_n d_X5_rounded_7 rfl rfl 2 rfl ?_
  refine ka_sub [1, 2, 3, 4, 5, 6, 0] rfl ?_
  exact k1
theorem cs_X5_rounded_8 {L : Nat} {xs : Nat → Int32} {σ : ks_St} {mc ms : Nat} {P : ka_O → ks_St → Prop} {f : Int32 → ks_St → Prop} {x1 : Int32} {x2 : Int32} {x3 : Int64} {x5 : Int32} {x6 : Int32} {x7 : Int32} {s0 : Int32} {s1 : Int32} (hK : ks_M L xs mX5_bias rm_X5_bias [.int s1] σ (pi_ f)) (kr : ∀ r σ', f r σ' → ks_W L xs mX5_rounded rm_X5_rounded 11 [(0, .ref 17), (1, .int x1), (2, .int x2), (3, .long x3), (5, .int x5), (6, .int x6), (7, .int x7)] [.int r, .int s0] σ' mc ms P) : ks_W L xs mX5_rounded rm_X5_rounded 8 [(0, .ref 17), (1, .int x1), (2, .int x2), (3, .long x3), (5, .int x5), (6, .int x6), (7, .int x7)] [.int s1, .int s0] σ mc ms P := by
  refine ks_callS (q := 11) (As := [.int s1]) (st := [.int s0]) d_X5_rounded_8 rfl rfl lk_X5_135 ⟨by decide, by decide⟩ (Nat.le_of_ble_eq_true rfl) ⟨Nat.le_refl _, Nat.le_refl _⟩ hK (fun v σ' hq => ?_) (fun E σ' hq => ?_)
  · obtain ⟨r, e, hf⟩ := hq; cases e; exact kr r σ' hf
  · obtain ⟨r, e, hf⟩ := hq; cases e
theorem sg_X5_rounded_11 {L : Nat} {xs : Nat → Int32} {σ : ks_St} {mc ms : Nat} {P : ka_O → ks_St → Prop} {x1 : Int32} {x2 : Int32} {x3 : Int64} {x5 : Int32} {x6 : Int32} {x7 : Int32} {s0 : Int32} {s1 : Int32}  (k1 : ks_W L xs mX5_rounded rm_X5_rounded 15 [(0, .ref 17), (1, .int x1), (2, .int x2), (3, .long x3), (5, .int x5), (6, .int x6), (7, .int x7), (8, .int (s0 - s1))] [.long x3] σ mc ms P) : ks_W L xs mX5_rounded rm_X5_rounded 11 [(0, .ref 17), (1, .int x1), (2, .int x2), (3, .long x3), (5, .int x5), (6, .int x6), (7, .int x7)] [.int s1, .int s0] σ mc ms P := by
  refine ka_isub d_X5_rounded_11 rfl ?_
  refine ka_istore (ls' := [(8, .int (s0 - s1)), (0, .ref 17), (1, .int x1), (2, .int x2), (3, .long x3), (5, .int x5), (6, .int x6), (7, .int x7)]) d_X5_rounded_12 rfl (by decide) rfl ?_
  refine ka_lload_n d_X5_rounded_14 rfl rfl 4 rfl ?_
  refine ka_sub [1, 2, 3, 4, 5, 6, 7, 0] rfl ?_
  exact k1
theorem cs_X5_rounded_15 {L : Nat} {xs : Nat → Int32} {σ : ks_St} {mc ms : Nat} {P : ka_O → ks_St → Prop} {f : Int32 → ks_St → Prop} {x1 : Int32} {x2 : Int32} {x3 : Int64} {x5 : Int32} {x6 : Int32} {x7 : Int32} {x8 : Int32} {s0 : Int64} (hK : ks_M L xs mX5_highest rm_X5_highest [.long s0] σ (pi_ f)) (kr : ∀ r σ', f r σ' → ks_W L xs mX5_rounded rm_X5_rounded 18 [(0, .ref 17), (1, .int x1), (2, .int x2), (3, .long x3), (5, .int x5), (6, .int x6), (7, .int x7), (8, .int x8)] [.int r] σ' mc ms P) : ks_W L xs mX5_rounded rm_X5_rounded 15 [(0, .ref 17), (1, .int x1), (2, .int x2), (3, .long x3), (5, .int x5), (6, .int x6), (7, .int x7), (8, .int x8)] [.long s0] σ mc ms P := by
  refine ks_callS (q := 18) (As := [.long s0]) (st := []) d_X5_rounded_15 rfl rfl lk_X5_149 ⟨by decide, by decide⟩ (Nat.le_of_ble_eq_true rfl) ⟨Nat.le_refl _, Nat.le_refl _⟩ hK (fun v σ' hq => ?_) (fun E σ' hq => ?_)
  · obtain ⟨r, e, hf⟩ := hq; cases e; exact kr r σ' hf
  · obtain ⟨r, e, hf⟩ := hq; cases e
theorem sg_X5_rounded_18 {L : Nat} {xs : Nat → Int32} {σ : ks_St} {mc ms : Nat} {P : ka_O → ks_St → Prop} {x1 : Int32} {x2 : Int32} {x3 : Int64} {x5 : Int32} {x6 : Int32} {x7 : Int32} {x8 : Int32} {s0 : Int32}  (k2 : ((s0 + x5) ≤ x8) → ks_W L xs mX5_rounded rm_X5_rounded 37 [(0, .ref 17), (1, .int x1), (2, .int x2), (3, .long x3), (5, .int x5), (6, .int x6), (7, .int x7), (8, .int x8), (9, .int (s0 + x5))] [.int x8] σ mc ms P) (k3 : (¬ ((s0 + x5) ≤ x8)) → ks_W L xs mX5_rounded rm_X5_rounded 37 [(0, .ref 17), (1, .int x1), (2, .int x2), (3, .long x3), (5, .int x5), (6, .int x6), (7, .int x7), (8, .int x8), (9, .int (s0 + x5))] [.int (s0 + x5)] σ mc ms P) : ks_W L xs mX5_rounded rm_X5_rounded 18 [(0, .ref 17), (1, .int x1), (2, .int x2), (3, .long x3), (5, .int x5), (6, .int x6), (7, .int x7), (8, .int x8)] [.int s0] σ mc ms P := by
  refine ka_iload d_X5_rounded_18 rfl 4 rfl ?_
  refine ka_iadd d_X5_rounded_20 rfl ?_
  refine ka_istore (ls' := [(9, .int (s0 + x5)), (0, .ref 17), (1, .int x1), (2, .int x2), (3, .long x3), (5, .int x5), (6, .int x6), (7, .int x7), (8, .int x8)]) d_X5_rounded_21 rfl (by decide) rfl ?_
  refine ka_iload d_X5_rounded_23 rfl 0 rfl ?_
  refine ka_iload d_X5_rounded_25 rfl 8 rfl ?_
  refine ka_icmp_le (tgt := 35) d_X5_rounded_27 (by decide) rfl (fun c1 => ?_) (fun c1 => ?_)
  · refine ka_iload d_X5_rounded_35 rfl 8 rfl ?_
    refine ka_sub [1, 2, 3, 4, 5, 6, 7, 8, 0] rfl ?_
    exact (k2 c1)
  · refine ka_iload d_X5_rounded_30 rfl 0 rfl ?_
    refine ka_goto (q := 37) d_X5_rounded_32 (by decide) ?_
    refine ka_sub [1, 2, 3, 4, 5, 6, 7, 8, 0] rfl ?_
    exact (k3 c1)
theorem sg_X5_rounded_37 {L : Nat} {xs : Nat → Int32} {σ : ks_St} {mc ms : Nat} {P : ka_O → ks_St → Prop} {x1 : Int32} {x2 : Int32} {x3 : Int64} {x5 : Int32} {x6 : Int32} {x7 : Int32} {x8 : Int32} {x9 : Int32} {s0 : Int32}  (k3 : (0 < ((s0 - x7) - x5)) → (((s0 - x7) - x5) ≤ 62) → ks_W L xs mX5_rounded rm_X5_rounded 77 [(0, .ref 17), (1, .int x1), (2, .int x2), (3, .long x3), (6, .int x6), (7, .int x7), (8, .int x8), (9, .int x9), (10, .int (s0 - x7)), (11, .int ((s0 - x7) - x5))] [.long (x3 >>> ((((s0 - x7) - x5)).toInt64 &&& 63))] σ mc ms P) (k4 : (0 < ((s0 - x7) - x5)) → (¬ (((s0 - x7) - x5) ≤ 62)) → ks_W L xs mX5_rounded rm_X5_rounded 77 [(0, .ref 17), (1, .int x1), (2, .int x2), (3, .long x3), (6, .int x6), (7, .int x7), (8, .int x8), (9, .int x9), (10, .int (s0 - x7)), (11, .int ((s0 - x7) - x5))] [.long 0] σ mc ms P) (k5 : (¬ (0 < ((s0 - x7) - x5))) → ks_W L xs mX5_rounded rm_X5_rounded 77 [(0, .ref 17), (1, .int x1), (2, .int x2), (3, .long x3), (6, .int x6), (7, .int x7), (8, .int x8), (9, .int x9), (10, .int (s0 - x7)), (11, .int ((s0 - x7) - x5))] [.long (x3 <<< (((-((s0 - x7) - x5))).toInt64 &&& 63))] σ mc ms P) : ks_W L xs mX5_rounded rm_X5_rounded 37 [(0, .ref 17), (1, .int x1), (2, .int x2), (3, .long x3), (5, .int x5), (6, .int x6), (7, .int x7), (8, .int x8), (9, .int x9)] [.int s0] σ mc ms P := by
  refine ka_iload d_X5_rounded_37 rfl 6 rfl ?_
  refine ka_isub d_X5_rounded_39 rfl ?_
  refine ka_istore (ls' := [(10, .int (s0 - x7)), (0, .ref 17), (1, .int x1), (2, .int x2), (3, .long x3), (5, .int x5), (6, .int x6), (7, .int x7), (8, .int x8), (9, .int x9)]) d_X5_rounded_40 rfl (by decide) rfl ?_
  refine ka_iload d_X5_rounded_42 rfl 0 rfl ?_
  refine ka_iload d_X5_rounded_44 rfl 5 rfl ?_
  refine ka_isub d_X5_rounded_46 rfl ?_
  refine ka_istore (ls' := [(11, .int ((s0 - x7) - x5)), (10, .int (s0 - x7)), (0, .ref 17), (1, .int x1), (2, .int x2), (3, .long x3), (5, .int x5), (6, .int x6), (7, .int x7), (8, .int x8), (9, .int x9)]) d_X5_rounded_47 rfl (by decide) rfl ?_
  refine ka_iload d_X5_rounded_49 rfl 0 rfl ?_
  refine ka_if_gt (tgt := 62) d_X5_rounded_51 (by decide) rfl (fun c1 => ?_) (fun c1 => ?_)
  · refine ka_iload d_X5_rounded_62 rfl 0 rfl ?_
    refine ka_bipush (v := 62) d_X5_rounded_64 rfl (by decide) ?_
    refine ka_icmp_le (tgt := 73) d_X5_rounded_66 (by decide) rfl (fun c2 => ?_) (fun c2 => ?_)
    · refine ka_lload_n d_X5_rounded_73 rfl rfl 5 rfl ?_
      refine ka_iload d_X5_rounded_74 rfl 0 rfl ?_
      refine ka_lshr d_X5_rounded_76 rfl ?_
      refine ka_sub [2, 3, 4, 5, 7, 8, 9, 10, 1, 0] rfl ?_
      exact (k3 c1 c2)
    · refine ka_lconst (v := 0) d_X5_rounded_69 rfl (by decide) ?_
      refine ka_goto (q := 77) d_X5_rounded_70 (by decide) ?_
      refine ka_sub [2, 3, 4, 5, 7, 8, 9, 10, 1, 0] rfl ?_
      exact (k4 c1 c2)
  · refine ka_lload_n d_X5_rounded_54 rfl rfl 5 rfl ?_
    refine ka_iload d_X5_rounded_55 rfl 0 rfl ?_
    refine ka_ineg d_X5_rounded_57 rfl ?_
    refine ka_lshl d_X5_rounded_58 rfl ?_
    refine ka_goto (q := 77) d_X5_rounded_59 (by decide) ?_
    refine ka_sub [2, 3, 4, 5, 7, 8, 9, 10, 1, 0] rfl ?_
    exact (k5 c1)
theorem sg_X5_rounded_77 {L : Nat} {xs : Nat → Int32} {σ : ks_St} {mc ms : Nat} {P : ka_O → ks_St → Prop} {x1 : Int32} {x2 : Int32} {x3 : Int64} {x6 : Int32} {x7 : Int32} {x8 : Int32} {x9 : Int32} {x10 : Int32} {x11 : Int32} {s0 : Int64}  (k3 : (x11 ≤ 62) → (x11 ≤ 0) → ks_W L xs mX5_rounded rm_X5_rounded 155 [(0, .ref 17), (1, .int x1), (2, .int x2), (6, .int x6), (7, .int x7), (8, .int x8), (9, .int x9), (10, .int x10), (12, .long s0), (14, .int 0)] [] σ mc ms P) (k7 : (x11 ≤ 62) → (¬ (x11 ≤ 0)) → (¬ (lg_cmp (x3 - (s0 <<< ((x11).toInt64 &&& 63))) 0) = 0) → (0 ≤ (lg_cmp (x3 - (s0 <<< ((x11).toInt64 &&& 63))) ((1 : Int64) <<< (((x11 - 1)).toInt64 &&& 63)))) → (¬ (lg_cmp (x3 - (s0 <<< ((x11).toInt64 &&& 63))) ((1 : Int64) <<< (((x11 - 1)).toInt64 &&& 63))) = 0) → ks_W L xs mX5_rounded rm_X5_rounded 153 [(0, .ref 17), (1, .int x1), (2, .int x2), (6, .int x6), (7, .int x7), (8, .int x8), (9, .int x9), (10, .int x10), (12, .long s0)] [.int 3] σ mc ms P) (k8 : (x11 ≤ 62) → (¬ (x11 ≤ 0)) → (¬ (lg_cmp (x3 - (s0 <<< ((x11).toInt64 &&& 63))) 0) = 0) → (0 ≤ (lg_cmp (x3 - (s0 <<< ((x11).toInt64 &&& 63))) ((1 : Int64) <<< (((x11 - 1)).toInt64 &&& 63)))) → ((lg_cmp (x3 - (s0 <<< ((x11).toInt64 &&& 63))) ((1 : Int64) <<< (((x11 - 1)).toInt64 &&& 63))) = 0) → ks_W L xs mX5_rounded rm_X5_rounded 153 [(0, .ref 17), (1, .int x1), (2, .int x2), (6, .int x6), (7, .int x7), (8, .int x8), (9, .int x9), (10, .int x10), (12, .long s0)] [.int 2] σ mc ms P) (k9 : (x11 ≤ 62) → (¬ (x11 ≤ 0)) → (¬ (lg_cmp (x3 - (s0 <<< ((x11).toInt64 &&& 63))) 0) = 0) → (¬ (0 ≤ (lg_cmp (x3 - (s0 <<< ((x11).toInt64 &&& 63))) ((1 : Int64) <<< (((x11 - 1)).toInt64 &&& 63))))) → ks_W L xs mX5_rounded rm_X5_rounded 153 [(0, .ref 17), (1, .int x1), (2, .int x2), (6, .int x6), (7, .int x7), (8, .int x8), (9, .int x9), (10, .int x10), (12, .long s0)] [.int 1] σ mc ms P) (k10 : (x11 ≤ 62) → (¬ (x11 ≤ 0)) → ((lg_cmp (x3 - (s0 <<< ((x11).toInt64 &&& 63))) 0) = 0) → ks_W L xs mX5_rounded rm_X5_rounded 153 [(0, .ref 17), (1, .int x1), (2, .int x2), (6, .int x6), (7, .int x7), (8, .int x8), (9, .int x9), (10, .int x10), (12, .long s0)] [.int 0] σ mc ms P) (k11 : (¬ (x11 ≤ 62)) → ks_W L xs mX5_rounded rm_X5_rounded 155 [(0, .ref 17), (1, .int x1), (2, .int x2), (6, .int x6), (7, .int x7), (8, .int x8), (9, .int x9), (10, .int x10), (12, .long s0), (14, .int 1)] [] σ mc ms P) : ks_W L xs mX5_rounded rm_X5_rounded 77 [(0, .ref 17), (1, .int x1), (2, .int x2), (3, .long x3), (6, .int x6), (7, .int x7), (8, .int x8), (9, .int x9), (10, .int x10), (11, .int x11)] [.long s0] σ mc ms P := by
  refine ka_lstore (ls' := [(12, .long s0), (0, .ref 17), (1, .int x1), (2, .int x2), (3, .long x3), (6, .int x6), (7, .int x7), (8, .int x8), (9, .int x9), (10, .int x10), (11, .int x11)]) d_X5_rounded_77 rfl (by decide) rfl ?_
  refine ka_iconst (v := 0) d_X5_rounded_79 rfl (by decide) ?_
  refine ka_istore (ls' := [(14, .int 0), (12, .long s0), (0, .ref 17), (1, .int x1), (2, .int x2), (3, .long x3), (6, .int x6), (7, .int x7), (8, .int x8), (9, .int x9), (10, .int x10), (11, .int x11)]) d_X5_rounded_80 rfl (by decide) rfl ?_
  refine ka_iload d_X5_rounded_82 rfl 11 rfl ?_
  refine ka_bipush (v := 62) d_X5_rounded_84 rfl (by decide) ?_
  refine ka_icmp_le (tgt := 95) d_X5_rounded_86 (by decide) rfl (fun c1 => ?_) (fun c1 => ?_)
  · refine ka_iload d_X5_rounded_95 rfl 11 rfl ?_
    refine ka_if_le (tgt := 155) d_X5_rounded_97 (by decide) rfl (fun c2 => ?_) (fun c2 => ?_)
    · refine ka_sub [2, 3, 4, 6, 7, 8, 9, 10, 1, 0] rfl ?_
      exact (k3 c1 c2)
    · refine ka_lload_n d_X5_rounded_100 rfl rfl 5 rfl ?_
      refine ka_lload d_X5_rounded_101 rfl 1 rfl ?_
      refine ka_iload d_X5_rounded_103 rfl 11 rfl ?_
      refine ka_lshl d_X5_rounded_105 rfl ?_
      refine ka_lsub d_X5_rounded_106 rfl ?_
      refine ka_lstore (ls' := [(15, .long (x3 - (s0 <<< ((x11).toInt64 &&& 63)))), (14, .int 0), (12, .long s0), (0, .ref 17), (1, .int x1), (2, .int x2), (3, .long x3), (6, .int x6), (7, .int x7), (8, .int x8), (9, .int x9), (10, .int x10), (11, .int x11)]) d_X5_rounded_107 rfl (by decide) rfl ?_
      refine ka_lconst (v := 1) d_X5_rounded_109 rfl (by decide) ?_
      refine ka_iload d_X5_rounded_110 rfl 12 rfl ?_
      refine ka_iconst (v := 1) d_X5_rounded_112 rfl (by decide) ?_
      refine ka_isub d_X5_rounded_113 rfl ?_
      refine ka_lshl d_X5_rounded_114 rfl ?_
      refine ka_lstore (ls' := [(17, .long ((1 : Int64) <<< (((x11 - 1)).toInt64 &&& 63))), (15, .long (x3 - (s0 <<< ((x11).toInt64 &&& 63)))), (14, .int 0), (12, .long s0), (0, .ref 17), (1, .int x1), (2, .int x2), (3, .long x3), (6, .int x6), (7, .int x7), (8, .int x8), (9, .int x9), (10, .int x10), (11, .int x11)]) d_X5_rounded_115 rfl (by decide) rfl ?_
      refine ka_lload d_X5_rounded_117 rfl 1 rfl ?_
      refine ka_lconst (v := 0) d_X5_rounded_119 rfl (by decide) ?_
      refine ka_lcmp d_X5_rounded_120 rfl ?_
      refine ka_if_ne (tgt := 128) d_X5_rounded_121 (by decide) rfl (fun c4 => ?_) (fun c4 => ?_)
      · refine ka_lload d_X5_rounded_128 rfl 1 rfl ?_
        refine ka_lload d_X5_rounded_130 rfl 0 rfl ?_
        refine ka_lcmp d_X5_rounded_132 rfl ?_
        refine ka_if_ge (tgt := 140) d_X5_rounded_133 (by decide) rfl (fun c5 => ?_) (fun c5 => ?_)
        · refine ka_lload d_X5_rounded_140 rfl 1 rfl ?_
          refine ka_lload d_X5_rounded_142 rfl 0 rfl ?_
          refine ka_lcmp d_X5_rounded_144 rfl ?_
          refine ka_if_ne (tgt := 152) d_X5_rounded_145 (by decide) rfl (fun c6 => ?_) (fun c6 => ?_)
          · refine ka_iconst (v := 3) d_X5_rounded_152 rfl (by decide) ?_
            refine ka_sub [4, 5, 6, 8, 9, 10, 11, 12, 3] rfl ?_
            exact (k7 c1 c2 c4 c5 c6)
          · refine ka_iconst (v := 2) d_X5_rounded_148 rfl (by decide) ?_
            refine ka_goto (q := 153) d_X5_rounded_149 (by decide) ?_
            refine ka_sub [4, 5, 6, 8, 9, 10, 11, 12, 3] rfl ?_
            exact (k8 c1 c2 c4 c5 c6)
        · refine ka_iconst (v := 1) d_X5_rounded_136 rfl (by decide) ?_
          refine ka_goto (q := 153) d_X5_rounded_137 (by decide) ?_
          refine ka_sub [4, 5, 6, 8, 9, 10, 11, 12, 3] rfl ?_
          exact (k9 c1 c2 c4 c5)
      · refine ka_iconst (v := 0) d_X5_rounded_124 rfl (by decide) ?_
        refine ka_goto (q := 153) d_X5_rounded_125 (by decide) ?_
        refine ka_sub [4, 5, 6, 8, 9, 10, 11, 12, 3] rfl ?_
        exact (k10 c1 c2 c4)
  · refine ka_iconst (v := 1) d_X5_rounded_89 rfl (by decide) ?_
    refine ka_istore (ls' := [(14, .int 1), (12, .long s0), (0, .ref 17), (1, .int x1), (2, .int x2), (3, .long x3), (6, .int x6), (7, .int x7), (8, .int x8), (9, .int x9), (10, .int x10), (11, .int x11)]) d_X5_rounded_90 rfl (by decide) rfl ?_
    refine ka_goto (q := 155) d_X5_rounded_92 (by decide) ?_
    refine ka_sub [2, 3, 4, 6, 7, 8, 9, 10, 1, 0] rfl ?_
    exact (k11 c1)
theorem sg_X5_rounded_153 {L : Nat} {xs : Nat → Int32} {σ : ks_St} {mc ms : Nat} {P : ka_O → ks_St → Prop} {x1 : Int32} {x2 : Int32} {x6 : Int32} {x7 : Int32} {x8 : Int32} {x9 : Int32} {x10 : Int32} {x12 : Int64} {s0 : Int32}  (k1 : ks_W L xs mX5_rounded rm_X5_rounded 155 [(0, .ref 17), (1, .int x1), (2, .int x2), (6, .int x6), (7, .int x7), (8, .int x8), (9, .int x9), (10, .int x10), (12, .long x12), (14, .int s0)] [] σ mc ms P) : ks_W L xs mX5_rounded rm_X5_rounded 153 [(0, .ref 17), (1, .int x1), (2, .int x2), (6, .int x6), (7, .int x7), (8, .int x8), (9, .int x9), (10, .int x10), (12, .long x12)] [.int s0] σ mc ms P := by
  refine ka_istore (ls' := [(14, .int s0), (0, .ref 17), (1, .int x1), (2, .int x2), (6, .int x6), (7, .int x7), (8, .int x8), (9, .int x9), (10, .int x10), (12, .long x12)]) d_X5_rounded_153 rfl (by decide) rfl ?_
  refine ka_sub [1, 2, 3, 4, 5, 6, 7, 8, 9, 0] rfl ?_
  exact k1
theorem sg_X5_rounded_155 {L : Nat} {xs : Nat → Int32} {σ : ks_St} {mc ms : Nat} {P : ka_O → ks_St → Prop} {x1 : Int32} {x2 : Int32} {x6 : Int32} {x7 : Int32} {x8 : Int32} {x9 : Int32} {x10 : Int32} {x12 : Int64} {x14 : Int32}  (k2 : (x14 ≤ 0) → ks_W L xs mX5_rounded rm_X5_rounded 171 [(0, .ref 17), (1, .int x1), (2, .int x2), (6, .int x6), (7, .int x7), (8, .int x8), (9, .int x9), (10, .int x10), (12, .long x12), (14, .int x14)] [] σ mc ms P) (k3 : (¬ (x14 ≤ 0)) → ks_W L xs mX5_rounded rm_X5_rounded 171 [(0, .ref 17), (1, .int x1), (2, .int x2), (6, .int x6), (7, .int x7), (8, .int x8), (9, .int x9), (10, .int x10), (12, .long x12), (14, .int x14)] [] (ui_ σ 17 ((si_ σ 17) ||| 16)) mc ms P) : ks_W L xs mX5_rounded rm_X5_rounded 155 [(0, .ref 17), (1, .int x1), (2, .int x2), (6, .int x6), (7, .int x7), (8, .int x8), (9, .int x9), (10, .int x10), (12, .long x12), (14, .int x14)] [] σ mc ms P := by
  refine ka_iload d_X5_rounded_155 rfl 9 rfl ?_
  refine ka_if_le (tgt := 171) d_X5_rounded_157 (by decide) rfl (fun c1 => ?_) (fun c1 => ?_)
  · exact (k2 c1)
  · refine ka_aload_n d_X5_rounded_160 rfl rfl 0 rfl ?_
    refine ka_dup d_X5_rounded_161 rfl rfl ?_
    refine gf_X5_6 d_X5_rounded_162 rfl fl_X5_142 ?_
    refine ka_bipush (v := 16) d_X5_rounded_165 rfl (by decide) ?_
    refine ka_ior d_X5_rounded_167 rfl ?_
    refine pf_X5_6 d_X5_rounded_168 rfl fl_X5_142 ?_
    exact (k3 c1)
theorem sg_X5_rounded_171 {L : Nat} {xs : Nat → Int32} {σ : ks_St} {mc ms : Nat} {P : ka_O → ks_St → Prop} {x1 : Int32} {x2 : Int32} {x6 : Int32} {x7 : Int32} {x8 : Int32} {x9 : Int32} {x10 : Int32} {x12 : Int64} {x14 : Int32}  (k2 : (x14 ≤ 0) → ks_W L xs mX5_rounded rm_X5_rounded 194 [(0, .ref 17), (1, .int x1), (2, .int x2), (6, .int x6), (7, .int x7), (10, .int x10), (12, .long x12), (14, .int x14)] [] σ mc ms P) (k4 : (¬ (x14 ≤ 0)) → (x8 ≤ x9) → ks_W L xs mX5_rounded rm_X5_rounded 194 [(0, .ref 17), (1, .int x1), (2, .int x2), (6, .int x6), (7, .int x7), (10, .int x10), (12, .long x12), (14, .int x14)] [] σ mc ms P) (k5 : (¬ (x14 ≤ 0)) → (¬ (x8 ≤ x9)) → ks_W L xs mX5_rounded rm_X5_rounded 194 [(0, .ref 17), (1, .int x1), (2, .int x2), (6, .int x6), (7, .int x7), (10, .int x10), (12, .long x12), (14, .int x14)] [] (ui_ σ 17 ((si_ σ 17) ||| 8)) mc ms P) : ks_W L xs mX5_rounded rm_X5_rounded 171 [(0, .ref 17), (1, .int x1), (2, .int x2), (6, .int x6), (7, .int x7), (8, .int x8), (9, .int x9), (10, .int x10), (12, .long x12), (14, .int x14)] [] σ mc ms P := by
  refine ka_iload d_X5_rounded_171 rfl 9 rfl ?_
  refine ka_if_le (tgt := 194) d_X5_rounded_173 (by decide) rfl (fun c1 => ?_) (fun c1 => ?_)
  · refine ka_sub [0, 1, 2, 3, 4, 7, 8, 9] rfl ?_
    exact (k2 c1)
  · refine ka_iload d_X5_rounded_176 rfl 6 rfl ?_
    refine ka_iload d_X5_rounded_178 rfl 5 rfl ?_
    refine ka_icmp_ge (tgt := 194) d_X5_rounded_180 (by decide) rfl (fun c3 => ?_) (fun c3 => ?_)
    · refine ka_sub [0, 1, 2, 3, 4, 7, 8, 9] rfl ?_
      exact (k4 c1 c3)
    · refine ka_aload_n d_X5_rounded_183 rfl rfl 0 rfl ?_
      refine ka_dup d_X5_rounded_184 rfl rfl ?_
      refine gf_X5_6 d_X5_rounded_185 rfl fl_X5_142 ?_
      refine ka_bipush (v := 8) d_X5_rounded_188 rfl (by decide) ?_
      refine ka_ior d_X5_rounded_190 rfl ?_
      refine pf_X5_6 d_X5_rounded_191 rfl fl_X5_142 ?_
      refine ka_sub [0, 1, 2, 3, 4, 7, 8, 9] rfl ?_
      exact (k5 c1 c3)
theorem sg_X5_rounded_194 {L : Nat} {xs : Nat → Int32} {σ : ks_St} {mc ms : Nat} {P : ka_O → ks_St → Prop} {x1 : Int32} {x2 : Int32} {x6 : Int32} {x7 : Int32} {x10 : Int32} {x12 : Int64} {x14 : Int32}  (k1 : ks_W L xs mX5_rounded rm_X5_rounded 201 [(0, .ref 17), (1, .int x1), (2, .int x2), (6, .int x6), (7, .int x7), (10, .int x10), (12, .long x12)] [.int x14, .long x12, .int x2, .int x6] σ mc ms P) : ks_W L xs mX5_rounded rm_X5_rounded 194 [(0, .ref 17), (1, .int x1), (2, .int x2), (6, .int x6), (7, .int x7), (10, .int x10), (12, .long x12), (14, .int x14)] [] σ mc ms P := by
  refine ka_iload d_X5_rounded_194 rfl 3 rfl ?_
  refine ka_iload_n d_X5_rounded_196 rfl rfl 2 rfl ?_
  refine ka_lload d_X5_rounded_197 rfl 6 rfl ?_
  refine ka_iload d_X5_rounded_199 rfl 7 rfl ?_
  refine ka_sub [0, 1, 2, 3, 4, 5, 6] rfl ?_
  exact k1
theorem cs_X5_rounded_201 {L : Nat} {xs : Nat → Int32} {σ : ks_St} {mc ms : Nat} {P : ka_O → ks_St → Prop} {f : Int32 → ks_St → Prop} {x1 : Int32} {x2 : Int32} {x6 : Int32} {x7 : Int32} {x10 : Int32} {x12 : Int64} {s0 : Int32} {s1 : Int32} {s2 : Int64} {s3 : Int32} (hK : ks_M L xs mX5_isMore rm_X5_isMore [.int s0, .int s1, .long s2, .int s3] σ (pi_ f)) (kr : ∀ r σ', f r σ' → ks_W L xs mX5_rounded rm_X5_rounded 204 [(0, .ref 17), (1, .int x1), (2, .int x2), (6, .int x6), (7, .int x7), (10, .int x10), (12, .long x12)] [.int r] σ' mc ms P) : ks_W L xs mX5_rounded rm_X5_rounded 201 [(0, .ref 17), (1, .int x1), (2, .int x2), (6, .int x6), (7, .int x7), (10, .int x10), (12, .long x12)] [.int s3, .long s2, .int s1, .int s0] σ mc ms P := by
  refine ks_callS (q := 204) (As := [.int s0, .int s1, .long s2, .int s3]) (st := []) d_X5_rounded_201 rfl rfl lk_X5_153 ⟨by decide, by decide⟩ (Nat.le_of_ble_eq_true rfl) ⟨Nat.le_refl _, Nat.le_refl _⟩ hK (fun v σ' hq => ?_) (fun E σ' hq => ?_)
  · obtain ⟨r, e, hf⟩ := hq; cases e; exact kr r σ' hf
  · obtain ⟨r, e, hf⟩ := hq; cases e
theorem sg_X5_rounded_204 {L : Nat} {xs : Nat → Int32} {σ : ks_St} {mc ms : Nat} {P : ka_O → ks_St → Prop} {x1 : Int32} {x2 : Int32} {x6 : Int32} {x7 : Int32} {x10 : Int32} {x12 : Int64} {s0 : Int32}  (k2 : (s0 = 0) → ks_W L xs mX5_rounded rm_X5_rounded 213 [(0, .ref 17), (1, .int x1), (2, .int x2), (6, .int x6), (7, .int x7), (10, .int x10), (12, .long x12)] [] σ mc ms P) (k3 : (¬ (s0 = 0)) → ks_W L xs mX5_rounded rm_X5_rounded 213 [(0, .ref 17), (1, .int x1), (2, .int x2), (6, .int x6), (7, .int x7), (10, .int x10), (12, .long (x12 + 1))] [] σ mc ms P) : ks_W L xs mX5_rounded rm_X5_rounded 204 [(0, .ref 17), (1, .int x1), (2, .int x2), (6, .int x6), (7, .int x7), (10, .int x10), (12, .long x12)] [.int s0] σ mc ms P := by
  refine ka_if_eq (tgt := 213) d_X5_rounded_204 (by decide) rfl (fun c1 => ?_) (fun c1 => ?_)
  · exact (k2 c1)
  · refine ka_lload d_X5_rounded_207 rfl 6 rfl ?_
    refine ka_lconst (v := 1) d_X5_rounded_209 rfl (by decide) ?_
    refine ka_ladd d_X5_rounded_210 rfl ?_
    refine ka_lstore (ls' := [(12, .long (x12 + 1)), (0, .ref 17), (1, .int x1), (2, .int x2), (6, .int x6), (7, .int x7), (10, .int x10)]) d_X5_rounded_211 rfl (by decide) rfl ?_
    refine ka_sub [1, 2, 3, 4, 5, 6, 0] rfl ?_
    exact (k3 c1)
theorem sg_X5_rounded_213 {L : Nat} {xs : Nat → Int32} {σ : ks_St} {mc ms : Nat} {P : ka_O → ks_St → Prop} {x1 : Int32} {x2 : Int32} {x6 : Int32} {x7 : Int32} {x10 : Int32} {x12 : Int64}  (k2 : (¬ (lg_cmp x12 ((2 : Int64) <<< ((x7).toInt64 &&& 63))) = 0) → ks_W L xs mX5_rounded rm_X5_rounded 234 [(0, .ref 17), (1, .int x1), (2, .int x2), (6, .int x6), (7, .int x7), (10, .int x10), (12, .long x12)] [] σ mc ms P) (k3 : ((lg_cmp x12 ((2 : Int64) <<< ((x7).toInt64 &&& 63))) = 0) → ks_W L xs mX5_rounded rm_X5_rounded 234 [(0, .ref 17), (1, .int x1), (2, .int x2), (6, .int x6), (7, .int x7), (10, .int (x10 + 1)), (12, .long (x12 >>> (((1 : Int32)).toInt64 &&& 63)))] [] σ mc ms P) : ks_W L xs mX5_rounded rm_X5_rounded 213 [(0, .ref 17), (1, .int x1), (2, .int x2), (6, .int x6), (7, .int x7), (10, .int x10), (12, .long x12)] [] σ mc ms P := by
  refine ka_lload d_X5_rounded_213 rfl 6 rfl ?_
  refine ka_ldc2 (v := 2) d_X5_rounded_215 rfl kl_X5_157 ?_
  refine ka_iload d_X5_rounded_218 rfl 4 rfl ?_
  refine ka_lshl d_X5_rounded_220 rfl ?_
  refine ka_lcmp d_X5_rounded_221 rfl ?_
  refine ka_if_ne (tgt := 234) d_X5_rounded_222 (by decide) rfl (fun c1 => ?_) (fun c1 => ?_)
  · exact (k2 c1)
  · refine ka_lload d_X5_rounded_225 rfl 6 rfl ?_
    refine ka_iconst (v := 1) d_X5_rounded_227 rfl (by decide) ?_
    refine ka_lshr d_X5_rounded_228 rfl ?_
    refine ka_lstore (ls' := [(12, .long (x12 >>> (((1 : Int32)).toInt64 &&& 63))), (0, .ref 17), (1, .int x1), (2, .int x2), (6, .int x6), (7, .int x7), (10, .int x10)]) d_X5_rounded_229 rfl (by decide) rfl ?_
    refine ka_iinc (g := 6) (v := x10 + 1) (ls' := [(10, .int (x10 + 1)), (12, .long (x12 >>> (((1 : Int32)).toInt64 &&& 63))), (0, .ref 17), (1, .int x1), (2, .int x2), (6, .int x6), (7, .int x7)]) d_X5_rounded_231 rfl rfl rfl (by decide) rfl ?_
    refine ka_sub [2, 3, 4, 5, 6, 0, 1] rfl ?_
    exact (k3 c1)
theorem sg_X5_rounded_234 {L : Nat} {xs : Nat → Int32} {σ : ks_St} {mc ms : Nat} {P : ka_O → ks_St → Prop} {x1 : Int32} {x2 : Int32} {x6 : Int32} {x7 : Int32} {x10 : Int32} {x12 : Int64}  (k1 : ks_W L xs mX5_rounded rm_X5_rounded 236 [(0, .ref 17), (1, .int x1), (2, .int x2), (6, .int x6), (7, .int x7), (10, .int x10), (12, .long x12)] [.int x1, .int 1] σ mc ms P) : ks_W L xs mX5_rounded rm_X5_rounded 234 [(0, .ref 17), (1, .int x1), (2, .int x2), (6, .int x6), (7, .int x7), (10, .int x10), (12, .long x12)] [] σ mc ms P := by
  refine ka_iconst (v := 1) d_X5_rounded_234 rfl (by decide) ?_
  refine ka_iload_n d_X5_rounded_235 rfl rfl 1 rfl ?_
  exact k1
theorem cs_X5_rounded_236 {L : Nat} {xs : Nat → Int32} {σ : ks_St} {mc ms : Nat} {P : ka_O → ks_St → Prop} {f : Int32 → ks_St → Prop} {x1 : Int32} {x2 : Int32} {x6 : Int32} {x7 : Int32} {x10 : Int32} {x12 : Int64} {s0 : Int32} {s1 : Int32} (hK : ks_M L xs mX5_exponentBits rm_X5_exponentBits [.int s1] σ (pi_ f)) (kr : ∀ r σ', f r σ' → ks_W L xs mX5_rounded rm_X5_rounded 239 [(0, .ref 17), (1, .int x1), (2, .int x2), (6, .int x6), (7, .int x7), (10, .int x10), (12, .long x12)] [.int r, .int s0] σ' mc ms P) : ks_W L xs mX5_rounded rm_X5_rounded 236 [(0, .ref 17), (1, .int x1), (2, .int x2), (6, .int x6), (7, .int x7), (10, .int x10), (12, .long x12)] [.int s1, .int s0] σ mc ms P := by
  refine ks_callS (q := 239) (As := [.int s1]) (st := [.int s0]) d_X5_rounded_236 rfl rfl lk_X5_129 ⟨by decide, by decide⟩ (Nat.le_of_ble_eq_true rfl) ⟨Nat.le_refl _, Nat.le_refl _⟩ hK (fun v σ' hq => ?_) (fun E σ' hq => ?_)
  · obtain ⟨r, e, hf⟩ := hq; cases e; exact kr r σ' hf
  · obtain ⟨r, e, hf⟩ := hq; cases e
theorem sg_X5_rounded_239 {L : Nat} {xs : Nat → Int32} {σ : ks_St} {mc ms : Nat} {P : ka_O → ks_St → Prop} {x1 : Int32} {x2 : Int32} {x6 : Int32} {x7 : Int32} {x10 : Int32} {x12 : Int64} {s0 : Int32} {s1 : Int32}  (k2 : (0 ≤ (lg_cmp x12 ((1 : Int64) <<< ((x7).toInt64 &&& 63)))) → ks_W L xs mX5_rounded rm_X5_rounded 269 [(0, .ref 17), (1, .int x1), (2, .int x2), (6, .int x6), (7, .int x7), (12, .long x12), (15, .int ((s0 <<< (s1 &&& 31)) - 1))] [.int x1, .int (x10 + x7)] σ mc ms P) (k3 : (¬ (0 ≤ (lg_cmp x12 ((1 : Int64) <<< ((x7).toInt64 &&& 63))))) → ks_W L xs mX5_rounded rm_X5_rounded 259 [] [.long x12, .int 0, .int x2, .int x1] σ mc ms P) : ks_W L xs mX5_rounded rm_X5_rounded 239 [(0, .ref 17), (1, .int x1), (2, .int x2), (6, .int x6), (7, .int x7), (10, .int x10), (12, .long x12)] [.int s1, .int s0] σ mc ms P := by
  refine ka_ishl d_X5_rounded_239 rfl ?_
  refine ka_iconst (v := 1) d_X5_rounded_240 rfl (by decide) ?_
  refine ka_isub d_X5_rounded_241 rfl ?_
  refine ka_istore (ls' := [(15, .int ((s0 <<< (s1 &&& 31)) - 1)), (0, .ref 17), (1, .int x1), (2, .int x2), (6, .int x6), (7, .int x7), (10, .int x10), (12, .long x12)]) d_X5_rounded_242 rfl (by decide) rfl ?_
  refine ka_lload d_X5_rounded_244 rfl 7 rfl ?_
  refine ka_lconst (v := 1) d_X5_rounded_246 rfl (by decide) ?_
  refine ka_iload d_X5_rounded_247 rfl 5 rfl ?_
  refine ka_lshl d_X5_rounded_249 rfl ?_
  refine ka_lcmp d_X5_rounded_250 rfl ?_
  refine ka_if_ge (tgt := 263) d_X5_rounded_251 (by decide) rfl (fun c1 => ?_) (fun c1 => ?_)
  · refine ka_iload d_X5_rounded_263 rfl 6 rfl ?_
    refine ka_iload d_X5_rounded_265 rfl 5 rfl ?_
    refine ka_iadd d_X5_rounded_267 rfl ?_
    refine ka_iload_n d_X5_rounded_268 rfl rfl 2 rfl ?_
    refine ka_sub [1, 2, 3, 4, 5, 7, 0] rfl ?_
    exact (k2 c1)
  · refine ka_iload_n d_X5_rounded_254 rfl rfl 2 rfl ?_
    refine ka_iload_n d_X5_rounded_255 rfl rfl 3 rfl ?_
    refine ka_iconst (v := 0) d_X5_rounded_256 rfl (by decide) ?_
    refine ka_lload d_X5_rounded_257 rfl 7 rfl ?_
    refine ka_sub [] rfl ?_
    exact (k3 c1)
theorem cs_X5_rounded_259 {L : Nat} {xs : Nat → Int32} {σ : ks_St} {mc ms : Nat} {P : ka_O → ks_St → Prop} {f : Int64 → ks_St → Prop} {s0 : Int32} {s1 : Int32} {s2 : Int32} {s3 : Int64} (hK : ks_M L xs mX5_packed rm_X5_packed [.int s0, .int s1, .int s2, .long s3] σ (pl_ f)) (kr : ∀ r σ', f r σ' → ks_W L xs mX5_rounded rm_X5_rounded 262 [] [.long r] σ' mc ms P) : ks_W L xs mX5_rounded rm_X5_rounded 259 [] [.long s3, .int s2, .int s1, .int s0] σ mc ms P := by
  refine ks_callS (q := 262) (As := [.int s0, .int s1, .int s2, .long s3]) (st := []) d_X5_rounded_259 rfl rfl lk_X5_138 ⟨by decide, by decide⟩ (Nat.le_of_ble_eq_true rfl) ⟨Nat.le_refl _, Nat.le_refl _⟩ hK (fun v σ' hq => ?_) (fun E σ' hq => ?_)
  · obtain ⟨r, e, hf⟩ := hq; cases e; exact kr r σ' hf
  · obtain ⟨r, e, hf⟩ := hq; cases e
theorem sg_X5_rounded_262 {L : Nat} {xs : Nat → Int32} {σ : ks_St} {mc ms : Nat} {P : ka_O → ks_St → Prop} {s0 : Int64}  (r1 : P (.inl (some (.long s0))) σ) : ks_W L xs mX5_rounded rm_X5_rounded 262 [] [.long s0] σ mc ms P := by
  exact ks_lret d_X5_rounded_262 rfl r1
theorem cs_X5_rounded_269 {L : Nat} {xs : Nat → Int32} {σ : ks_St} {mc ms : Nat} {P : ka_O → ks_St → Prop} {f : Int32 → ks_St → Prop} {x1 : Int32} {x2 : Int32} {x6 : Int32} {x7 : Int32} {x12 : Int64} {x15 : Int32} {s0 : Int32} {s1 : Int32} (hK : ks_M L xs mX5_bias rm_X5_bias [.int s1] σ (pi_ f)) (kr : ∀ r σ', f r σ' → ks_W L xs mX5_rounded rm_X5_rounded 272 [(0, .ref 17), (1, .int x1), (2, .int x2), (6, .int x6), (7, .int x7), (12, .long x12), (15, .int x15)] [.int r, .int s0] σ' mc ms P) : ks_W L xs mX5_rounded rm_X5_rounded 269 [(0, .ref 17), (1, .int x1), (2, .int x2), (6, .int x6), (7, .int x7), (12, .long x12), (15, .int x15)] [.int s1, .int s0] σ mc ms P := by
  refine ks_callS (q := 272) (As := [.int s1]) (st := [.int s0]) d_X5_rounded_269 rfl rfl lk_X5_135 ⟨by decide, by decide⟩ (Nat.le_of_ble_eq_true rfl) ⟨Nat.le_refl _, Nat.le_refl _⟩ hK (fun v σ' hq => ?_) (fun E σ' hq => ?_)
  · obtain ⟨r, e, hf⟩ := hq; cases e; exact kr r σ' hf
  · obtain ⟨r, e, hf⟩ := hq; cases e
theorem sg_X5_rounded_272 {L : Nat} {xs : Nat → Int32} {σ : ks_St} {mc ms : Nat} {P : ka_O → ks_St → Prop} {x1 : Int32} {x2 : Int32} {x6 : Int32} {x7 : Int32} {x12 : Int64} {x15 : Int32} {s0 : Int32} {s1 : Int32}  (k3 : (x15 ≤ (s0 + s1)) → (x6 = 0) → ks_W L xs mX5_rounded rm_X5_rounded 333 [(1, .int x1), (2, .int x2), (7, .int x7), (15, .int x15)] [] (ui_ σ 17 ((si_ σ 17) ||| 20)) mc ms P) (k5 : (x15 ≤ (s0 + s1)) → (¬ (x6 = 0)) → (x6 = 4) → ks_W L xs mX5_rounded rm_X5_rounded 333 [(1, .int x1), (2, .int x2), (7, .int x7), (15, .int x15)] [] (ui_ σ 17 ((si_ σ 17) ||| 20)) mc ms P) (k7 : (x15 ≤ (s0 + s1)) → (¬ (x6 = 0)) → (¬ (x6 = 4)) → (x6 ≤ 1) → ks_W L xs mX5_rounded rm_X5_rounded 337 [(1, .int x1), (2, .int x2), (7, .int x7), (15, .int x15)] [] (ui_ σ 17 ((si_ σ 17) ||| 20)) mc ms P) (k9 : (x15 ≤ (s0 + s1)) → (¬ (x6 = 0)) → (¬ (x6 = 4)) → (¬ (x6 ≤ 1)) → (¬ x2 = (x6 - 2)) → ks_W L xs mX5_rounded rm_X5_rounded 337 [(1, .int x1), (2, .int x2), (7, .int x7), (15, .int x15)] [] (ui_ σ 17 ((si_ σ 17) ||| 20)) mc ms P) (k10 : (x15 ≤ (s0 + s1)) → (¬ (x6 = 0)) → (¬ (x6 = 4)) → (¬ (x6 ≤ 1)) → (x2 = (x6 - 2)) → ks_W L xs mX5_rounded rm_X5_rounded 333 [(1, .int x1), (2, .int x2), (7, .int x7), (15, .int x15)] [] (ui_ σ 17 ((si_ σ 17) ||| 20)) mc ms P) (k11 : (¬ (x15 ≤ (s0 + s1))) → ks_W L xs mX5_rounded rm_X5_rounded 293 [] [.long (x12 - ((1 : Int64) <<< ((x7).toInt64 &&& 63))), .int (s0 + s1), .int x2, .int x1] σ mc ms P) : ks_W L xs mX5_rounded rm_X5_rounded 272 [(0, .ref 17), (1, .int x1), (2, .int x2), (6, .int x6), (7, .int x7), (12, .long x12), (15, .int x15)] [.int s1, .int s0] σ mc ms P := by
  refine ka_iadd d_X5_rounded_272 rfl ?_
  refine ka_istore (ls' := [(16, .int (s0 + s1)), (0, .ref 17), (1, .int x1), (2, .int x2), (6, .int x6), (7, .int x7), (12, .long x12), (15, .int x15)]) d_X5_rounded_273 rfl (by decide) rfl ?_
  refine ka_iload d_X5_rounded_275 rfl 0 rfl ?_
  refine ka_iload d_X5_rounded_277 rfl 7 rfl ?_
  refine ka_icmp_ge (tgt := 297) d_X5_rounded_279 (by decide) rfl (fun c1 => ?_) (fun c1 => ?_)
  · refine ka_aload_n d_X5_rounded_297 rfl rfl 1 rfl ?_
    refine ka_dup d_X5_rounded_298 rfl rfl ?_
    refine gf_X5_6 d_X5_rounded_299 rfl fl_X5_142 ?_
    refine ka_bipush (v := 20) d_X5_rounded_302 rfl (by decide) ?_
    refine ka_ior d_X5_rounded_304 rfl ?_
    refine pf_X5_6 d_X5_rounded_305 rfl fl_X5_142 ?_
    refine ka_iload d_X5_rounded_308 rfl 4 rfl ?_
    refine ka_if_eq (tgt := 333) d_X5_rounded_310 (by decide) rfl (fun c2 => ?_) (fun c2 => ?_)
    · refine ka_sub [2, 3, 5, 7] rfl ?_
      exact (k3 c1 c2)
    · refine ka_iload d_X5_rounded_313 rfl 4 rfl ?_
      refine ka_iconst (v := 4) d_X5_rounded_315 rfl (by decide) ?_
      refine ka_icmp_eq (tgt := 333) d_X5_rounded_316 (by decide) rfl (fun c4 => ?_) (fun c4 => ?_)
      · refine ka_sub [2, 3, 5, 7] rfl ?_
        exact (k5 c1 c2 c4)
      · refine ka_iload d_X5_rounded_319 rfl 4 rfl ?_
        refine ka_iconst (v := 1) d_X5_rounded_321 rfl (by decide) ?_
        refine ka_icmp_le (tgt := 337) d_X5_rounded_322 (by decide) rfl (fun c6 => ?_) (fun c6 => ?_)
        · refine ka_sub [2, 3, 5, 7] rfl ?_
          exact (k7 c1 c2 c4 c6)
        · refine ka_iload_n d_X5_rounded_325 rfl rfl 3 rfl ?_
          refine ka_iload d_X5_rounded_326 rfl 4 rfl ?_
          refine ka_iconst (v := 2) d_X5_rounded_328 rfl (by decide) ?_
          refine ka_isub d_X5_rounded_329 rfl ?_
          refine ka_icmp_ne (tgt := 337) d_X5_rounded_330 (by decide) rfl (fun c8 => ?_) (fun c8 => ?_)
          · refine ka_sub [2, 3, 5, 7] rfl ?_
            exact (k9 c1 c2 c4 c6 c8)
          · refine ka_sub [2, 3, 5, 7] rfl ?_
            exact (k10 c1 c2 c4 c6 c8)
  · refine ka_iload_n d_X5_rounded_282 rfl rfl 2 rfl ?_
    refine ka_iload_n d_X5_rounded_283 rfl rfl 3 rfl ?_
    refine ka_iload d_X5_rounded_284 rfl 0 rfl ?_
    refine ka_lload d_X5_rounded_286 rfl 6 rfl ?_
    refine ka_lconst (v := 1) d_X5_rounded_288 rfl (by decide) ?_
    refine ka_iload d_X5_rounded_289 rfl 5 rfl ?_
    refine ka_lshl d_X5_rounded_291 rfl ?_
    refine ka_lsub d_X5_rounded_292 rfl ?_
    refine ka_sub [] rfl ?_
    exact (k11 c1)
theorem cs_X5_rounded_293 {L : Nat} {xs : Nat → Int32} {σ : ks_St} {mc ms : Nat} {P : ka_O → ks_St → Prop} {f : Int64 → ks_St → Prop} {s0 : Int32} {s1 : Int32} {s2 : Int32} {s3 : Int64} (hK : ks_M L xs mX5_packed rm_X5_packed [.int s0, .int s1, .int s2, .long s3] σ (pl_ f)) (kr : ∀ r σ', f r σ' → ks_W L xs mX5_rounded rm_X5_rounded 296 [] [.long r] σ' mc ms P) : ks_W L xs mX5_rounded rm_X5_rounded 293 [] [.long s3, .int s2, .int s1, .int s0] σ mc ms P := by
  refine ks_callS (q := 296) (As := [.int s0, .int s1, .int s2, .long s3]) (st := []) d_X5_rounded_293 rfl rfl lk_X5_138 ⟨by decide, by decide⟩ (Nat.le_of_ble_eq_true rfl) ⟨Nat.le_refl _, Nat.le_refl _⟩ hK (fun v σ' hq => ?_) (fun E σ' hq => ?_)
  · obtain ⟨r, e, hf⟩ := hq; cases e; exact kr r σ' hf
  · obtain ⟨r, e, hf⟩ := hq; cases e
theorem sg_X5_rounded_296 {L : Nat} {xs : Nat → Int32} {σ : ks_St} {mc ms : Nat} {P : ka_O → ks_St → Prop} {s0 : Int64}  (r1 : P (.inl (some (.long s0))) σ) : ks_W L xs mX5_rounded rm_X5_rounded 296 [] [.long s0] σ mc ms P := by
  exact ks_lret d_X5_rounded_296 rfl r1
theorem sg_X5_rounded_333 {L : Nat} {xs : Nat → Int32} {σ : ks_St} {mc ms : Nat} {P : ka_O → ks_St → Prop} {x1 : Int32} {x2 : Int32} {x7 : Int32} {x15 : Int32}  (k1 : ks_W L xs mX5_rounded rm_X5_rounded 338 [(1, .int x1), (2, .int x2), (7, .int x7), (15, .int x15)] [.int 1] σ mc ms P) : ks_W L xs mX5_rounded rm_X5_rounded 333 [(1, .int x1), (2, .int x2), (7, .int x7), (15, .int x15)] [] σ mc ms P := by
  refine ka_iconst (v := 1) d_X5_rounded_333 rfl (by decide) ?_
  refine ka_goto (q := 338) d_X5_rounded_334 (by decide) ?_
  exact k1
theorem sg_X5_rounded_337 {L : Nat} {xs : Nat → Int32} {σ : ks_St} {mc ms : Nat} {P : ka_O → ks_St → Prop} {x1 : Int32} {x2 : Int32} {x7 : Int32} {x15 : Int32}  (k1 : ks_W L xs mX5_rounded rm_X5_rounded 338 [(1, .int x1), (2, .int x2), (7, .int x7), (15, .int x15)] [.int 0] σ mc ms P) : ks_W L xs mX5_rounded rm_X5_rounded 337 [(1, .int x1), (2, .int x2), (7, .int x7), (15, .int x15)] [] σ mc ms P := by
  refine ka_iconst (v := 0) d_X5_rounded_337 rfl (by decide) ?_
  exact k1
theorem sg_X5_rounded_338 {L : Nat} {xs : Nat → Int32} {σ : ks_St} {mc ms : Nat} {P : ka_O → ks_St → Prop} {x1 : Int32} {x2 : Int32} {x7 : Int32} {x15 : Int32} {s0 : Int32}  (k2 : (s0 = 0) → ks_W L xs mX5_rounded rm_X5_rounded 365 [] [.long (((1 : Int64) <<< ((x7).toInt64 &&& 63)) - 1), .int (x15 - 1), .int x2, .int x1] σ mc ms P) (k3 : (¬ (s0 = 0)) → ks_W L xs mX5_rounded rm_X5_rounded 347 [] [.int x2, .int x1] σ mc ms P) : ks_W L xs mX5_rounded rm_X5_rounded 338 [(1, .int x1), (2, .int x2), (7, .int x7), (15, .int x15)] [.int s0] σ mc ms P := by
  refine ka_istore (ls' := [(17, .int s0), (1, .int x1), (2, .int x2), (7, .int x7), (15, .int x15)]) d_X5_rounded_338 rfl (by decide) rfl ?_
  refine ka_iload d_X5_rounded_340 rfl 0 rfl ?_
  refine ka_if_eq (tgt := 353) d_X5_rounded_342 (by decide) rfl (fun c1 => ?_) (fun c1 => ?_)
  · refine ka_iload_n d_X5_rounded_353 rfl rfl 1 rfl ?_
    refine ka_iload_n d_X5_rounded_354 rfl rfl 2 rfl ?_
    refine ka_iload d_X5_rounded_355 rfl 4 rfl ?_
    refine ka_iconst (v := 1) d_X5_rounded_357 rfl (by decide) ?_
    refine ka_isub d_X5_rounded_358 rfl ?_
    refine ka_lconst (v := 1) d_X5_rounded_359 rfl (by decide) ?_
    refine ka_iload d_X5_rounded_360 rfl 3 rfl ?_
    refine ka_lshl d_X5_rounded_362 rfl ?_
    refine ka_lconst (v := 1) d_X5_rounded_363 rfl (by decide) ?_
    refine ka_lsub d_X5_rounded_364 rfl ?_
    refine ka_sub [] rfl ?_
    exact (k2 c1)
  · refine ka_iload_n d_X5_rounded_345 rfl rfl 1 rfl ?_
    refine ka_iload_n d_X5_rounded_346 rfl rfl 2 rfl ?_
    refine ka_sub [] rfl ?_
    exact (k3 c1)
theorem cs_X5_rounded_347 {L : Nat} {xs : Nat → Int32} {σ : ks_St} {mc ms : Nat} {P : ka_O → ks_St → Prop} {f : Int64 → ks_St → Prop} {s0 : Int32} {s1 : Int32} (hK : ks_M L xs mX5_infinite rm_X5_infinite [.int s0, .int s1] σ (pl_ f)) (kr : ∀ r σ', f r σ' → ks_W L xs mX5_rounded rm_X5_rounded 350 [] [.long r] σ' mc ms P) : ks_W L xs mX5_rounded rm_X5_rounded 347 [] [.int s1, .int s0] σ mc ms P := by
  refine ks_callS (q := 350) (As := [.int s0, .int s1]) (st := []) d_X5_rounded_347 rfl rfl lk_X5_159 ⟨by decide, by decide⟩ (Nat.le_of_ble_eq_true rfl) ⟨Nat.le_refl _, Nat.le_refl _⟩ hK (fun v σ' hq => ?_) (fun E σ' hq => ?_)
  · obtain ⟨r, e, hf⟩ := hq; cases e; exact kr r σ' hf
  · obtain ⟨r, e, hf⟩ := hq; cases e
theorem sg_X5_rounded_350 {L : Nat} {xs : Nat → Int32} {σ : ks_St} {mc ms : Nat} {P : ka_O → ks_St → Prop} {s0 : Int64}  (k1 : ks_W L xs mX5_rounded rm_X5_rounded 368 [] [.long s0] σ mc ms P) : ks_W L xs mX5_rounded rm_X5_rounded 350 [] [.long s0] σ mc ms P := by
  refine ka_goto (q := 368) d_X5_rounded_350 (by decide) ?_
  exact k1
theorem cs_X5_rounded_365 {L : Nat} {xs : Nat → Int32} {σ : ks_St} {mc ms : Nat} {P : ka_O → ks_St → Prop} {f : Int64 → ks_St → Prop} {s0 : Int32} {s1 : Int32} {s2 : Int32} {s3 : Int64} (hK : ks_M L xs mX5_packed rm_X5_packed [.int s0, .int s1, .int s2, .long s3] σ (pl_ f)) (kr : ∀ r σ', f r σ' → ks_W L xs mX5_rounded rm_X5_rounded 368 [] [.long r] σ' mc ms P) : ks_W L xs mX5_rounded rm_X5_rounded 365 [] [.long s3, .int s2, .int s1, .int s0] σ mc ms P := by
  refine ks_callS (q := 368) (As := [.int s0, .int s1, .int s2, .long s3]) (st := []) d_X5_rounded_365 rfl rfl lk_X5_138 ⟨by decide, by decide⟩ (Nat.le_of_ble_eq_true rfl) ⟨Nat.le_refl _, Nat.le_refl _⟩ hK (fun v σ' hq => ?_) (fun E σ' hq => ?_)
  · obtain ⟨r, e, hf⟩ := hq; cases e; exact kr r σ' hf
  · obtain ⟨r, e, hf⟩ := hq; cases e
theorem sg_X5_rounded_368 {L : Nat} {xs : Nat → Int32} {σ : ks_St} {mc ms : Nat} {P : ka_O → ks_St → Prop} {s0 : Int64}  (r1 : P (.inl (some (.long s0))) σ) : ks_W L xs mX5_rounded rm_X5_rounded 368 [] [.long s0] σ mc ms P := by
  exact ks_lret d_X5_rounded_368 rfl r1
theorem d_X5_sum_0 : decode cX5_sum 0 = .ok (.aload_n 0, 1) := by decide +kernel
theorem d_X5_sum_1 : decode cX5_sum 1 = .ok (.getfield 33, 3) := by decide +kernel
theorem d_X5_sum_4 : decode cX5_sum 4 = .ok (.iconst 0, 1) := by decide +kernel
theorem d_X5_sum_5 : decode cX5_sum 5 = .ok (.iaload, 1) := by decide +kernel
theorem d_X5_sum_6 : decode cX5_sum 6 = .ok (.iconst 1, 1) := by decide +kernel
theorem d_X5_sum_7 : decode cX5_sum 7 = .ok (.if_icmp .eq 13, 3) := by decide +kernel
theorem d_X5_sum_10 : decode cX5_sum 10 = .ok (.aload_n 0, 1) := by decide +kernel
theorem d_X5_sum_11 : decode cX5_sum 11 = .ok (.getfield 33, 3) := by decide +kernel
theorem d_X5_sum_14 : decode cX5_sum 14 = .ok (.iconst 1, 1) := by decide +kernel
theorem d_X5_sum_15 : decode cX5_sum 15 = .ok (.iaload, 1) := by decide +kernel
theorem d_X5_sum_16 : decode cX5_sum 16 = .ok (.iconst 1, 1) := by decide +kernel
theorem d_X5_sum_17 : decode cX5_sum 17 = .ok (.if_icmp .ne 74, 3) := by decide +kernel
theorem d_X5_sum_20 : decode cX5_sum 20 = .ok (.aload_n 0, 1) := by decide +kernel
theorem d_X5_sum_21 : decode cX5_sum 21 = .ok (.getfield 33, 3) := by decide +kernel
theorem d_X5_sum_24 : decode cX5_sum 24 = .ok (.iconst 0, 1) := by decide +kernel
theorem d_X5_sum_25 : decode cX5_sum 25 = .ok (.iaload, 1) := by decide +kernel
theorem d_X5_sum_26 : decode cX5_sum 26 = .ok (.iconst 1, 1) := by decide +kernel
theorem d_X5_sum_27 : decode cX5_sum 27 = .ok (.if_icmp .ne 34, 3) := by decide +kernel
theorem d_X5_sum_30 : decode cX5_sum 30 = .ok (.aload_n 0, 1) := by decide +kernel
theorem d_X5_sum_31 : decode cX5_sum 31 = .ok (.getfield 33, 3) := by decide +kernel
theorem d_X5_sum_34 : decode cX5_sum 34 = .ok (.iconst 1, 1) := by decide +kernel
theorem d_X5_sum_35 : decode cX5_sum 35 = .ok (.iaload, 1) := by decide +kernel
theorem d_X5_sum_36 : decode cX5_sum 36 = .ok (.iconst 1, 1) := by decide +kernel
theorem d_X5_sum_37 : decode cX5_sum 37 = .ok (.if_icmp .ne 24, 3) := by decide +kernel
theorem d_X5_sum_40 : decode cX5_sum 40 = .ok (.aload_n 0, 1) := by decide +kernel
theorem d_X5_sum_41 : decode cX5_sum 41 = .ok (.getfield 36, 3) := by decide +kernel
theorem d_X5_sum_44 : decode cX5_sum 44 = .ok (.iconst 0, 1) := by decide +kernel
theorem d_X5_sum_45 : decode cX5_sum 45 = .ok (.iaload, 1) := by decide +kernel
theorem d_X5_sum_46 : decode cX5_sum 46 = .ok (.aload_n 0, 1) := by decide +kernel
theorem d_X5_sum_47 : decode cX5_sum 47 = .ok (.getfield 36, 3) := by decide +kernel
theorem d_X5_sum_50 : decode cX5_sum 50 = .ok (.iconst 1, 1) := by decide +kernel
theorem d_X5_sum_51 : decode cX5_sum 51 = .ok (.iaload, 1) := by decide +kernel
theorem d_X5_sum_52 : decode cX5_sum 52 = .ok (.if_icmp .eq 9, 3) := by decide +kernel
theorem d_X5_sum_55 : decode cX5_sum 55 = .ok (.aload_n 0, 1) := by decide +kernel
theorem d_X5_sum_56 : decode cX5_sum 56 = .ok (.iload_n 1, 1) := by decide +kernel
theorem d_X5_sum_57 : decode cX5_sum 57 = .ok (.invokevirtual 163, 3) := by decide +kernel
theorem d_X5_sum_60 : decode cX5_sum 60 = .ok (.lreturn, 1) := by decide +kernel
theorem d_X5_sum_61 : decode cX5_sum 61 = .ok (.iload_n 1, 1) := by decide +kernel
theorem d_X5_sum_62 : decode cX5_sum 62 = .ok (.aload_n 0, 1) := by decide +kernel
theorem d_X5_sum_63 : decode cX5_sum 63 = .ok (.getfield 33, 3) := by decide +kernel
theorem d_X5_sum_66 : decode cX5_sum 66 = .ok (.iconst 0, 1) := by decide +kernel
theorem d_X5_sum_67 : decode cX5_sum 67 = .ok (.iaload, 1) := by decide +kernel
theorem d_X5_sum_68 : decode cX5_sum 68 = .ok (.iconst 1, 1) := by decide +kernel
theorem d_X5_sum_69 : decode cX5_sum 69 = .ok (.if_icmp .ne 12, 3) := by decide +kernel
theorem d_X5_sum_72 : decode cX5_sum 72 = .ok (.aload_n 0, 1) := by decide +kernel
theorem d_X5_sum_73 : decode cX5_sum 73 = .ok (.getfield 36, 3) := by decide +kernel
theorem d_X5_sum_76 : decode cX5_sum 76 = .ok (.iconst 0, 1) := by decide +kernel
theorem d_X5_sum_77 : decode cX5_sum 77 = .ok (.iaload, 1) := by decide +kernel
theorem d_X5_sum_78 : decode cX5_sum 78 = .ok (.goto 9, 3) := by decide +kernel
theorem d_X5_sum_81 : decode cX5_sum 81 = .ok (.aload_n 0, 1) := by decide +kernel
theorem d_X5_sum_82 : decode cX5_sum 82 = .ok (.getfield 36, 3) := by decide +kernel
theorem d_X5_sum_85 : decode cX5_sum 85 = .ok (.iconst 1, 1) := by decide +kernel
theorem d_X5_sum_86 : decode cX5_sum 86 = .ok (.iaload, 1) := by decide +kernel
theorem d_X5_sum_87 : decode cX5_sum 87 = .ok (.invokestatic 159, 3) := by decide +kernel
theorem d_X5_sum_90 : decode cX5_sum 90 = .ok (.lreturn, 1) := by decide +kernel
theorem d_X5_sum_91 : decode cX5_sum 91 = .ok (.aload_n 0, 1) := by decide +kernel
theorem d_X5_sum_92 : decode cX5_sum 92 = .ok (.getfield 42, 3) := by decide +kernel
theorem d_X5_sum_95 : decode cX5_sum 95 = .ok (.iconst 0, 1) := by decide +kernel
theorem d_X5_sum_96 : decode cX5_sum 96 = .ok (.laload, 1) := by decide +kernel
theorem d_X5_sum_97 : decode cX5_sum 97 = .ok (.lconst 0, 1) := by decide +kernel
theorem d_X5_sum_98 : decode cX5_sum 98 = .ok (.lcmp, 1) := by decide +kernel
theorem d_X5_sum_99 : decode cX5_sum 99 = .ok (.ifCond .ne 55, 3) := by decide +kernel
theorem d_X5_sum_102 : decode cX5_sum 102 = .ok (.aload_n 0, 1) := by decide +kernel
theorem d_X5_sum_103 : decode cX5_sum 103 = .ok (.getfield 42, 3) := by decide +kernel
theorem d_X5_sum_106 : decode cX5_sum 106 = .ok (.iconst 1, 1) := by decide +kernel
theorem d_X5_sum_107 : decode cX5_sum 107 = .ok (.laload, 1) := by decide +kernel
theorem d_X5_sum_108 : decode cX5_sum 108 = .ok (.lconst 0, 1) := by decide +kernel
theorem d_X5_sum_109 : decode cX5_sum 109 = .ok (.lcmp, 1) := by decide +kernel
theorem d_X5_sum_110 : decode cX5_sum 110 = .ok (.ifCond .ne 44, 3) := by decide +kernel
theorem d_X5_sum_113 : decode cX5_sum 113 = .ok (.iload_n 1, 1) := by decide +kernel
theorem d_X5_sum_114 : decode cX5_sum 114 = .ok (.aload_n 0, 1) := by decide +kernel
theorem d_X5_sum_115 : decode cX5_sum 115 = .ok (.getfield 36, 3) := by decide +kernel
theorem d_X5_sum_118 : decode cX5_sum 118 = .ok (.iconst 0, 1) := by decide +kernel
theorem d_X5_sum_119 : decode cX5_sum 119 = .ok (.iaload, 1) := by decide +kernel
theorem d_X5_sum_120 : decode cX5_sum 120 = .ok (.aload_n 0, 1) := by decide +kernel
theorem d_X5_sum_121 : decode cX5_sum 121 = .ok (.getfield 36, 3) := by decide +kernel
theorem d_X5_sum_124 : decode cX5_sum 124 = .ok (.iconst 1, 1) := by decide +kernel
theorem d_X5_sum_125 : decode cX5_sum 125 = .ok (.iaload, 1) := by decide +kernel
theorem d_X5_sum_126 : decode cX5_sum 126 = .ok (.if_icmp .ne 12, 3) := by decide +kernel
theorem d_X5_sum_129 : decode cX5_sum 129 = .ok (.aload_n 0, 1) := by decide +kernel
theorem d_X5_sum_130 : decode cX5_sum 130 = .ok (.getfield 36, 3) := by decide +kernel
theorem d_X5_sum_133 : decode cX5_sum 133 = .ok (.iconst 0, 1) := by decide +kernel
theorem d_X5_sum_134 : decode cX5_sum 134 = .ok (.iaload, 1) := by decide +kernel
theorem d_X5_sum_135 : decode cX5_sum 135 = .ok (.goto 13, 3) := by decide +kernel
theorem d_X5_sum_138 : decode cX5_sum 138 = .ok (.iload_n 2, 1) := by decide +kernel
theorem d_X5_sum_139 : decode cX5_sum 139 = .ok (.iconst 3, 1) := by decide +kernel
theorem d_X5_sum_140 : decode cX5_sum 140 = .ok (.if_icmp .ne 7, 3) := by decide +kernel
theorem d_X5_sum_143 : decode cX5_sum 143 = .ok (.iconst 1, 1) := by decide +kernel
theorem d_X5_sum_144 : decode cX5_sum 144 = .ok (.goto 4, 3) := by decide +kernel
theorem d_X5_sum_147 : decode cX5_sum 147 = .ok (.iconst 0, 1) := by decide +kernel
theorem d_X5_sum_148 : decode cX5_sum 148 = .ok (.iconst 0, 1) := by decide +kernel
theorem d_X5_sum_149 : decode cX5_sum 149 = .ok (.lconst 0, 1) := by decide +kernel
theorem d_X5_sum_150 : decode cX5_sum 150 = .ok (.invokestatic 138, 3) := by decide +kernel
theorem d_X5_sum_153 : decode cX5_sum 153 = .ok (.lreturn, 1) := by decide +kernel
theorem d_X5_sum_154 : decode cX5_sum 154 = .ok (.aload_n 0, 1) := by decide +kernel
theorem d_X5_sum_155 : decode cX5_sum 155 = .ok (.getfield 42, 3) := by decide +kernel
theorem d_X5_sum_158 : decode cX5_sum 158 = .ok (.iconst 0, 1) := by decide +kernel
theorem d_X5_sum_159 : decode cX5_sum 159 = .ok (.laload, 1) := by decide +kernel
theorem d_X5_sum_160 : decode cX5_sum 160 = .ok (.lconst 0, 1) := by decide +kernel
theorem d_X5_sum_161 : decode cX5_sum 161 = .ok (.lcmp, 1) := by decide +kernel
theorem d_X5_sum_162 : decode cX5_sum 162 = .ok (.ifCond .eq 14, 3) := by decide +kernel
theorem d_X5_sum_165 : decode cX5_sum 165 = .ok (.aload_n 0, 1) := by decide +kernel
theorem d_X5_sum_166 : decode cX5_sum 166 = .ok (.getfield 42, 3) := by decide +kernel
theorem d_X5_sum_169 : decode cX5_sum 169 = .ok (.iconst 1, 1) := by decide +kernel
theorem d_X5_sum_170 : decode cX5_sum 170 = .ok (.laload, 1) := by decide +kernel
theorem d_X5_sum_171 : decode cX5_sum 171 = .ok (.lconst 0, 1) := by decide +kernel
theorem d_X5_sum_172 : decode cX5_sum 172 = .ok (.lcmp, 1) := by decide +kernel
theorem d_X5_sum_173 : decode cX5_sum 173 = .ok (.ifCond .ne 45, 3) := by decide +kernel
theorem d_X5_sum_176 : decode cX5_sum 176 = .ok (.aload_n 0, 1) := by decide +kernel
theorem d_X5_sum_177 : decode cX5_sum 177 = .ok (.getfield 42, 3) := by decide +kernel
theorem d_X5_sum_180 : decode cX5_sum 180 = .ok (.iconst 0, 1) := by decide +kernel
theorem d_X5_sum_181 : decode cX5_sum 181 = .ok (.laload, 1) := by decide +kernel
theorem d_X5_sum_182 : decode cX5_sum 182 = .ok (.lconst 0, 1) := by decide +kernel
theorem d_X5_sum_183 : decode cX5_sum 183 = .ok (.lcmp, 1) := by decide +kernel
theorem d_X5_sum_184 : decode cX5_sum 184 = .ok (.ifCond .ne 7, 3) := by decide +kernel
theorem d_X5_sum_187 : decode cX5_sum 187 = .ok (.iconst 1, 1) := by decide +kernel
theorem d_X5_sum_188 : decode cX5_sum 188 = .ok (.goto 4, 3) := by decide +kernel
theorem d_X5_sum_191 : decode cX5_sum 191 = .ok (.iconst 0, 1) := by decide +kernel
theorem d_X5_sum_192 : decode cX5_sum 192 = .ok (.istore_n 3, 1) := by decide +kernel
theorem d_X5_sum_193 : decode cX5_sum 193 = .ok (.aload_n 0, 1) := by decide +kernel
theorem d_X5_sum_194 : decode cX5_sum 194 = .ok (.iload_n 1, 1) := by decide +kernel
theorem d_X5_sum_195 : decode cX5_sum 195 = .ok (.aload_n 0, 1) := by decide +kernel
theorem d_X5_sum_196 : decode cX5_sum 196 = .ok (.getfield 36, 3) := by decide +kernel
theorem d_X5_sum_199 : decode cX5_sum 199 = .ok (.iload_n 3, 1) := by decide +kernel
theorem d_X5_sum_200 : decode cX5_sum 200 = .ok (.iaload, 1) := by decide +kernel
theorem d_X5_sum_201 : decode cX5_sum 201 = .ok (.aload_n 0, 1) := by decide +kernel
theorem d_X5_sum_202 : decode cX5_sum 202 = .ok (.getfield 42, 3) := by decide +kernel
theorem d_X5_sum_205 : decode cX5_sum 205 = .ok (.iload_n 3, 1) := by decide +kernel
theorem d_X5_sum_206 : decode cX5_sum 206 = .ok (.laload, 1) := by decide +kernel
theorem d_X5_sum_207 : decode cX5_sum 207 = .ok (.aload_n 0, 1) := by decide +kernel
theorem d_X5_sum_208 : decode cX5_sum 208 = .ok (.getfield 39, 3) := by decide +kernel
theorem d_X5_sum_211 : decode cX5_sum 211 = .ok (.iload_n 3, 1) := by decide +kernel
theorem d_X5_sum_212 : decode cX5_sum 212 = .ok (.iaload, 1) := by decide +kernel
theorem d_X5_sum_213 : decode cX5_sum 213 = .ok (.iload_n 2, 1) := by decide +kernel
theorem d_X5_sum_214 : decode cX5_sum 214 = .ok (.invokevirtual 166, 3) := by decide +kernel
theorem d_X5_sum_217 : decode cX5_sum 217 = .ok (.lreturn, 1) := by decide +kernel
theorem d_X5_sum_218 : decode cX5_sum 218 = .ok (.aload_n 0, 1) := by decide +kernel
theorem d_X5_sum_219 : decode cX5_sum 219 = .ok (.getfield 39, 3) := by decide +kernel
theorem d_X5_sum_222 : decode cX5_sum 222 = .ok (.iconst 0, 1) := by decide +kernel
theorem d_X5_sum_223 : decode cX5_sum 223 = .ok (.iaload, 1) := by decide +kernel
theorem d_X5_sum_224 : decode cX5_sum 224 = .ok (.aload_n 0, 1) := by decide +kernel
theorem d_X5_sum_225 : decode cX5_sum 225 = .ok (.getfield 39, 3) := by decide +kernel
theorem d_X5_sum_228 : decode cX5_sum 228 = .ok (.iconst 1, 1) := by decide +kernel
theorem d_X5_sum_229 : decode cX5_sum 229 = .ok (.iaload, 1) := by decide +kernel
theorem d_X5_sum_230 : decode cX5_sum 230 = .ok (.if_icmp .lt 7, 3) := by decide +kernel
theorem d_X5_sum_233 : decode cX5_sum 233 = .ok (.iconst 0, 1) := by decide +kernel
theorem d_X5_sum_234 : decode cX5_sum 234 = .ok (.goto 4, 3) := by decide +kernel
theorem d_X5_sum_237 : decode cX5_sum 237 = .ok (.iconst 1, 1) := by decide +kernel
theorem d_X5_sum_238 : decode cX5_sum 238 = .ok (.istore_n 3, 1) := by decide +kernel
theorem d_X5_sum_239 : decode cX5_sum 239 = .ok (.iconst 1, 1) := by decide +kernel
theorem d_X5_sum_240 : decode cX5_sum 240 = .ok (.iload_n 3, 1) := by decide +kernel
theorem d_X5_sum_241 : decode cX5_sum 241 = .ok (.isub, 1) := by decide +kernel
theorem d_X5_sum_242 : decode cX5_sum 242 = .ok (.istore 4, 2) := by decide +kernel
theorem d_X5_sum_244 : decode cX5_sum 244 = .ok (.aload_n 0, 1) := by decide +kernel
theorem d_X5_sum_245 : decode cX5_sum 245 = .ok (.getfield 39, 3) := by decide +kernel
theorem d_X5_sum_248 : decode cX5_sum 248 = .ok (.iload_n 3, 1) := by decide +kernel
theorem d_X5_sum_249 : decode cX5_sum 249 = .ok (.iaload, 1) := by decide +kernel
theorem d_X5_sum_250 : decode cX5_sum 250 = .ok (.aload_n 0, 1) := by decide +kernel
theorem d_X5_sum_251 : decode cX5_sum 251 = .ok (.getfield 39, 3) := by decide +kernel
theorem d_X5_sum_254 : decode cX5_sum 254 = .ok (.iload 4, 2) := by decide +kernel
theorem d_X5_sum_256 : decode cX5_sum 256 = .ok (.iaload, 1) := by decide +kernel
theorem d_X5_sum_257 : decode cX5_sum 257 = .ok (.isub, 1) := by decide +kernel
theorem d_X5_sum_258 : decode cX5_sum 258 = .ok (.istore 5, 2) := by decide +kernel
theorem d_X5_sum_260 : decode cX5_sum 260 = .ok (.iload 5, 2) := by decide +kernel
theorem d_X5_sum_262 : decode cX5_sum 262 = .ok (.bipush 38, 2) := by decide +kernel
theorem d_X5_sum_264 : decode cX5_sum 264 = .ok (.if_icmp .le 7, 3) := by decide +kernel
theorem d_X5_sum_267 : decode cX5_sum 267 = .ok (.iconst 1, 1) := by decide +kernel
theorem d_X5_sum_268 : decode cX5_sum 268 = .ok (.goto 4, 3) := by decide +kernel
theorem d_X5_sum_271 : decode cX5_sum 271 = .ok (.iconst 0, 1) := by decide +kernel
theorem d_X5_sum_272 : decode cX5_sum 272 = .ok (.istore 6, 2) := by decide +kernel
theorem d_X5_sum_274 : decode cX5_sum 274 = .ok (.aload_n 0, 1) := by decide +kernel
theorem d_X5_sum_275 : decode cX5_sum 275 = .ok (.getfield 42, 3) := by decide +kernel
theorem d_X5_sum_278 : decode cX5_sum 278 = .ok (.iload_n 3, 1) := by decide +kernel
theorem d_X5_sum_279 : decode cX5_sum 279 = .ok (.laload, 1) := by decide +kernel
theorem d_X5_sum_280 : decode cX5_sum 280 = .ok (.iload 6, 2) := by decide +kernel
theorem d_X5_sum_282 : decode cX5_sum 282 = .ok (.ifCond .eq 8, 3) := by decide +kernel
theorem d_X5_sum_285 : decode cX5_sum 285 = .ok (.bipush 15, 2) := by decide +kernel
theorem d_X5_sum_287 : decode cX5_sum 287 = .ok (.goto 5, 3) := by decide +kernel
theorem d_X5_sum_290 : decode cX5_sum 290 = .ok (.iload 5, 2) := by decide +kernel
theorem d_X5_sum_292 : decode cX5_sum 292 = .ok (.lshl, 1) := by decide +kernel
theorem d_X5_sum_293 : decode cX5_sum 293 = .ok (.lstore 7, 2) := by decide +kernel
theorem d_X5_sum_295 : decode cX5_sum 295 = .ok (.iload 6, 2) := by decide +kernel
theorem d_X5_sum_297 : decode cX5_sum 297 = .ok (.ifCond .eq 7, 3) := by decide +kernel
theorem d_X5_sum_300 : decode cX5_sum 300 = .ok (.lconst 1, 1) := by decide +kernel
theorem d_X5_sum_301 : decode cX5_sum 301 = .ok (.goto 10, 3) := by decide +kernel
theorem d_X5_sum_304 : decode cX5_sum 304 = .ok (.aload_n 0, 1) := by decide +kernel
theorem d_X5_sum_305 : decode cX5_sum 305 = .ok (.getfield 42, 3) := by decide +kernel
theorem d_X5_sum_308 : decode cX5_sum 308 = .ok (.iload 4, 2) := by decide +kernel
theorem d_X5_sum_310 : decode cX5_sum 310 = .ok (.laload, 1) := by decide +kernel
theorem d_X5_sum_311 : decode cX5_sum 311 = .ok (.lstore 9, 2) := by decide +kernel
theorem d_X5_sum_313 : decode cX5_sum 313 = .ok (.iload 6, 2) := by decide +kernel
theorem d_X5_sum_315 : decode cX5_sum 315 = .ok (.ifCond .eq 15, 3) := by decide +kernel
theorem d_X5_sum_318 : decode cX5_sum 318 = .ok (.aload_n 0, 1) := by decide +kernel
theorem d_X5_sum_319 : decode cX5_sum 319 = .ok (.getfield 39, 3) := by decide +kernel
theorem d_X5_sum_322 : decode cX5_sum 322 = .ok (.iload_n 3, 1) := by decide +kernel
theorem d_X5_sum_323 : decode cX5_sum 323 = .ok (.iaload, 1) := by decide +kernel
theorem d_X5_sum_324 : decode cX5_sum 324 = .ok (.bipush 15, 2) := by decide +kernel
theorem d_X5_sum_326 : decode cX5_sum 326 = .ok (.isub, 1) := by decide +kernel
theorem d_X5_sum_327 : decode cX5_sum 327 = .ok (.goto 10, 3) := by decide +kernel
theorem d_X5_sum_330 : decode cX5_sum 330 = .ok (.aload_n 0, 1) := by decide +kernel
theorem d_X5_sum_331 : decode cX5_sum 331 = .ok (.getfield 39, 3) := by decide +kernel
theorem d_X5_sum_334 : decode cX5_sum 334 = .ok (.iload 4, 2) := by decide +kernel
theorem d_X5_sum_336 : decode cX5_sum 336 = .ok (.iaload, 1) := by decide +kernel
theorem d_X5_sum_337 : decode cX5_sum 337 = .ok (.istore 11, 2) := by decide +kernel
theorem d_X5_sum_339 : decode cX5_sum 339 = .ok (.aload_n 0, 1) := by decide +kernel
theorem d_X5_sum_340 : decode cX5_sum 340 = .ok (.getfield 36, 3) := by decide +kernel
theorem d_X5_sum_343 : decode cX5_sum 343 = .ok (.iconst 0, 1) := by decide +kernel
theorem d_X5_sum_344 : decode cX5_sum 344 = .ok (.iaload, 1) := by decide +kernel
theorem d_X5_sum_345 : decode cX5_sum 345 = .ok (.aload_n 0, 1) := by decide +kernel
theorem d_X5_sum_346 : decode cX5_sum 346 = .ok (.getfield 36, 3) := by decide +kernel
theorem d_X5_sum_349 : decode cX5_sum 349 = .ok (.iconst 1, 1) := by decide +kernel
theorem d_X5_sum_350 : decode cX5_sum 350 = .ok (.iaload, 1) := by decide +kernel
theorem d_X5_sum_351 : decode cX5_sum 351 = .ok (.if_icmp .ne 23, 3) := by decide +kernel
theorem d_X5_sum_354 : decode cX5_sum 354 = .ok (.aload_n 0, 1) := by decide +kernel
theorem d_X5_sum_355 : decode cX5_sum 355 = .ok (.iload_n 1, 1) := by decide +kernel
theorem d_X5_sum_356 : decode cX5_sum 356 = .ok (.aload_n 0, 1) := by decide +kernel
theorem d_X5_sum_357 : decode cX5_sum 357 = .ok (.getfield 36, 3) := by decide +kernel
theorem d_X5_sum_360 : decode cX5_sum 360 = .ok (.iconst 0, 1) := by decide +kernel
theorem d_X5_sum_361 : decode cX5_sum 361 = .ok (.iaload, 1) := by decide +kernel
theorem d_X5_sum_362 : decode cX5_sum 362 = .ok (.lload 7, 2) := by decide +kernel
theorem d_X5_sum_364 : decode cX5_sum 364 = .ok (.lload 9, 2) := by decide +kernel
theorem d_X5_sum_366 : decode cX5_sum 366 = .ok (.ladd, 1) := by decide +kernel
theorem d_X5_sum_367 : decode cX5_sum 367 = .ok (.iload 11, 2) := by decide +kernel
theorem d_X5_sum_369 : decode cX5_sum 369 = .ok (.iload_n 2, 1) := by decide +kernel
theorem d_X5_sum_370 : decode cX5_sum 370 = .ok (.invokevirtual 166, 3) := by decide +kernel
theorem d_X5_sum_373 : decode cX5_sum 373 = .ok (.lreturn, 1) := by decide +kernel
theorem d_X5_sum_374 : decode cX5_sum 374 = .ok (.lload 7, 2) := by decide +kernel
theorem d_X5_sum_376 : decode cX5_sum 376 = .ok (.lload 9, 2) := by decide +kernel
theorem d_X5_sum_378 : decode cX5_sum 378 = .ok (.lcmp, 1) := by decide +kernel
theorem d_X5_sum_379 : decode cX5_sum 379 = .ok (.ifCond .ne 20, 3) := by decide +kernel
theorem d_X5_sum_382 : decode cX5_sum 382 = .ok (.iload_n 1, 1) := by decide +kernel
theorem d_X5_sum_383 : decode cX5_sum 383 = .ok (.iload_n 2, 1) := by decide +kernel
theorem d_X5_sum_384 : decode cX5_sum 384 = .ok (.iconst 3, 1) := by decide +kernel
theorem d_X5_sum_385 : decode cX5_sum 385 = .ok (.if_icmp .ne 7, 3) := by decide +kernel
theorem d_X5_sum_388 : decode cX5_sum 388 = .ok (.iconst 1, 1) := by decide +kernel
theorem d_X5_sum_389 : decode cX5_sum 389 = .ok (.goto 4, 3) := by decide +kernel
theorem d_X5_sum_392 : decode cX5_sum 392 = .ok (.iconst 0, 1) := by decide +kernel
theorem d_X5_sum_393 : decode cX5_sum 393 = .ok (.iconst 0, 1) := by decide +kernel
theorem d_X5_sum_394 : decode cX5_sum 394 = .ok (.lconst 0, 1) := by decide +kernel
theorem d_X5_sum_395 : decode cX5_sum 395 = .ok (.invokestatic 138, 3) := by decide +kernel
theorem d_X5_sum_398 : decode cX5_sum 398 = .ok (.lreturn, 1) := by decide +kernel
theorem d_X5_sum_399 : decode cX5_sum 399 = .ok (.lload 7, 2) := by decide +kernel
theorem d_X5_sum_401 : decode cX5_sum 401 = .ok (.lload 9, 2) := by decide +kernel
theorem d_X5_sum_403 : decode cX5_sum 403 = .ok (.lcmp, 1) := by decide +kernel
theorem d_X5_sum_404 : decode cX5_sum 404 = .ok (.ifCond .le 25, 3) := by decide +kernel
theorem d_X5_sum_407 : decode cX5_sum 407 = .ok (.aload_n 0, 1) := by decide +kernel
theorem d_X5_sum_408 : decode cX5_sum 408 = .ok (.iload_n 1, 1) := by decide +kernel
theorem d_X5_sum_409 : decode cX5_sum 409 = .ok (.aload_n 0, 1) := by decide +kernel
theorem d_X5_sum_410 : decode cX5_sum 410 = .ok (.getfield 36, 3) := by decide +kernel
theorem d_X5_sum_413 : decode cX5_sum 413 = .ok (.iload_n 3, 1) := by decide +kernel
theorem d_X5_sum_414 : decode cX5_sum 414 = .ok (.iaload, 1) := by decide +kernel
theorem d_X5_sum_415 : decode cX5_sum 415 = .ok (.lload 7, 2) := by decide +kernel
theorem d_X5_sum_417 : decode cX5_sum 417 = .ok (.lload 9, 2) := by decide +kernel
theorem d_X5_sum_419 : decode cX5_sum 419 = .ok (.lsub, 1) := by decide +kernel
theorem d_X5_sum_420 : decode cX5_sum 420 = .ok (.iload 11, 2) := by decide +kernel
theorem d_X5_sum_422 : decode cX5_sum 422 = .ok (.iload_n 2, 1) := by decide +kernel
theorem d_X5_sum_423 : decode cX5_sum 423 = .ok (.invokevirtual 166, 3) := by decide +kernel
theorem d_X5_sum_426 : decode cX5_sum 426 = .ok (.goto 23, 3) := by decide +kernel
theorem d_X5_sum_429 : decode cX5_sum 429 = .ok (.aload_n 0, 1) := by decide +kernel
theorem d_X5_sum_430 : decode cX5_sum 430 = .ok (.iload_n 1, 1) := by decide +kernel
theorem d_X5_sum_431 : decode cX5_sum 431 = .ok (.aload_n 0, 1) := by decide +kernel
theorem d_X5_sum_432 : decode cX5_sum 432 = .ok (.getfield 36, 3) := by decide +kernel
theorem d_X5_sum_435 : decode cX5_sum 435 = .ok (.iload 4, 2) := by decide +kernel
theorem d_X5_sum_437 : decode cX5_sum 437 = .ok (.iaload, 1) := by decide +kernel
theorem d_X5_sum_438 : decode cX5_sum 438 = .ok (.lload 9, 2) := by decide +kernel
theorem d_X5_sum_440 : decode cX5_sum 440 = .ok (.lload 7, 2) := by decide +kernel
theorem d_X5_sum_442 : decode cX5_sum 442 = .ok (.lsub, 1) := by decide +kernel
theorem d_X5_sum_443 : decode cX5_sum 443 = .ok (.iload 11, 2) := by decide +kernel
theorem d_X5_sum_445 : decode cX5_sum 445 = .ok (.iload_n 2, 1) := by decide +kernel
theorem d_X5_sum_446 : decode cX5_sum 446 = .ok (.invokevirtual 166, 3) := by decide +kernel
theorem d_X5_sum_449 : decode cX5_sum 449 = .ok (.lreturn, 1) := by decide +kernel
theorem sg_X5_sum_0 {L : Nat} {xs : Nat → Int32} {σ : ks_St} {mc ms : Nat} {P : ka_O → ks_St → Prop} {x1 : Int32} {x2 : Int32}  (k2 : ((sf_ σ 25 (0 : Int32).toNatClampNeg) = 1) → ks_W L xs mX5_sum rm_X5_sum 20 [(0, .ref 17), (1, .int x1)] [] σ mc ms P) (k5 : (¬ ((sf_ σ 25 (0 : Int32).toNatClampNeg) = 1)) → (¬ (sf_ σ 25 (1 : Int32).toNatClampNeg) = 1) → (¬ (lg_cmp (sg_ σ 28 (0 : Int32).toNatClampNeg) 0) = 0) → ks_W L xs mX5_sum rm_X5_sum 154 [(0, .ref 17), (1, .int x1), (2, .int x2)] [] σ mc ms P) (k7 : (¬ ((sf_ σ 25 (0 : Int32).toNatClampNeg) = 1)) → (¬ (sf_ σ 25 (1 : Int32).toNatClampNeg) = 1) → ((lg_cmp (sg_ σ 28 (0 : Int32).toNatClampNeg) 0) = 0) → (¬ (lg_cmp (sg_ σ 28 (1 : Int32).toNatClampNeg) 0) = 0) → ks_W L xs mX5_sum rm_X5_sum 154 [(0, .ref 17), (1, .int x1), (2, .int x2)] [] σ mc ms P) (k10 : (¬ ((sf_ σ 25 (0 : Int32).toNatClampNeg) = 1)) → (¬ (sf_ σ 25 (1 : Int32).toNatClampNeg) = 1) → ((lg_cmp (sg_ σ 28 (0 : Int32).toNatClampNeg) 0) = 0) → ((lg_cmp (sg_ σ 28 (1 : Int32).toNatClampNeg) 0) = 0) → (¬ (sf_ σ 26 (0 : Int32).toNatClampNeg) = (sf_ σ 26 (1 : Int32).toNatClampNeg)) → (¬ x2 = 3) → ks_W L xs mX5_sum rm_X5_sum 148 [] [.int 0, .int x1] σ mc ms P) (k11 : (¬ ((sf_ σ 25 (0 : Int32).toNatClampNeg) = 1)) → (¬ (sf_ σ 25 (1 : Int32).toNatClampNeg) = 1) → ((lg_cmp (sg_ σ 28 (0 : Int32).toNatClampNeg) 0) = 0) → ((lg_cmp (sg_ σ 28 (1 : Int32).toNatClampNeg) 0) = 0) → (¬ (sf_ σ 26 (0 : Int32).toNatClampNeg) = (sf_ σ 26 (1 : Int32).toNatClampNeg)) → (x2 = 3) → ks_W L xs mX5_sum rm_X5_sum 148 [] [.int 1, .int x1] σ mc ms P) (k12 : (¬ ((sf_ σ 25 (0 : Int32).toNatClampNeg) = 1)) → (¬ (sf_ σ 25 (1 : Int32).toNatClampNeg) = 1) → ((lg_cmp (sg_ σ 28 (0 : Int32).toNatClampNeg) 0) = 0) → ((lg_cmp (sg_ σ 28 (1 : Int32).toNatClampNeg) 0) = 0) → ((sf_ σ 26 (0 : Int32).toNatClampNeg) = (sf_ σ 26 (1 : Int32).toNatClampNeg)) → ks_W L xs mX5_sum rm_X5_sum 148 [] [.int (sf_ σ 26 (0 : Int32).toNatClampNeg), .int x1] σ mc ms P) (k13 : (¬ ((sf_ σ 25 (0 : Int32).toNatClampNeg) = 1)) → ((sf_ σ 25 (1 : Int32).toNatClampNeg) = 1) → ks_W L xs mX5_sum rm_X5_sum 20 [(0, .ref 17), (1, .int x1)] [] σ mc ms P) : ks_W L xs mX5_sum rm_X5_sum 0 [(0, .ref 17), (1, .int x1), (2, .int x2)] [] σ mc ms P := by
  refine ka_aload_n d_X5_sum_0 rfl rfl 0 rfl ?_
  refine gf_X5_11 d_X5_sum_1 rfl fl_X5_33 ?_
  refine ka_iconst (v := 0) d_X5_sum_4 rfl (by decide) ?_
  refine ks_iald row_25 d_X5_sum_5 rfl (by unfold vp_in; decide) ?_
  refine ka_iconst (v := 1) d_X5_sum_6 rfl (by decide) ?_
  refine ka_icmp_eq (tgt := 20) d_X5_sum_7 (by decide) rfl (fun c1 => ?_) (fun c1 => ?_)
  · refine ka_sub [0, 1] rfl ?_
    exact (k2 c1)
  · refine ka_aload_n d_X5_sum_10 rfl rfl 0 rfl ?_
    refine gf_X5_11 d_X5_sum_11 rfl fl_X5_33 ?_
    refine ka_iconst (v := 1) d_X5_sum_14 rfl (by decide) ?_
    refine ks_iald row_25 d_X5_sum_15 rfl (by unfold vp_in; decide) ?_
    refine ka_iconst (v := 1) d_X5_sum_16 rfl (by decide) ?_
    refine ka_icmp_ne (tgt := 91) d_X5_sum_17 (by decide) rfl (fun c3 => ?_) (fun c3 => ?_)
    · refine ka_aload_n d_X5_sum_91 rfl rfl 0 rfl ?_
      refine gf_X5_14 d_X5_sum_92 rfl fl_X5_42 ?_
      refine ka_iconst (v := 0) d_X5_sum_95 rfl (by decide) ?_
      refine ks_lald row_28 d_X5_sum_96 rfl (by unfold vp_in; decide) ?_
      refine ka_lconst (v := 0) d_X5_sum_97 rfl (by decide) ?_
      refine ka_lcmp d_X5_sum_98 rfl ?_
      refine ka_if_ne (tgt := 154) d_X5_sum_99 (by decide) rfl (fun c4 => ?_) (fun c4 => ?_)
      · exact (k5 c1 c3 c4)
      · refine ka_aload_n d_X5_sum_102 rfl rfl 0 rfl ?_
        refine gf_X5_14 d_X5_sum_103 rfl fl_X5_42 ?_
        refine ka_iconst (v := 1) d_X5_sum_106 rfl (by decide) ?_
        refine ks_lald row_28 d_X5_sum_107 rfl (by unfold vp_in; decide) ?_
        refine ka_lconst (v := 0) d_X5_sum_108 rfl (by decide) ?_
        refine ka_lcmp d_X5_sum_109 rfl ?_
        refine ka_if_ne (tgt := 154) d_X5_sum_110 (by decide) rfl (fun c6 => ?_) (fun c6 => ?_)
        · exact (k7 c1 c3 c4 c6)
        · refine ka_iload_n d_X5_sum_113 rfl rfl 1 rfl ?_
          refine ka_aload_n d_X5_sum_114 rfl rfl 0 rfl ?_
          refine gf_X5_12 d_X5_sum_115 rfl fl_X5_36 ?_
          refine ka_iconst (v := 0) d_X5_sum_118 rfl (by decide) ?_
          refine ks_iald row_26 d_X5_sum_119 rfl (by unfold vp_in; decide) ?_
          refine ka_aload_n d_X5_sum_120 rfl rfl 0 rfl ?_
          refine gf_X5_12 d_X5_sum_121 rfl fl_X5_36 ?_
          refine ka_iconst (v := 1) d_X5_sum_124 rfl (by decide) ?_
          refine ks_iald row_26 d_X5_sum_125 rfl (by unfold vp_in; decide) ?_
          refine ka_icmp_ne (tgt := 138) d_X5_sum_126 (by decide) rfl (fun c8 => ?_) (fun c8 => ?_)
          · refine ka_iload_n d_X5_sum_138 rfl rfl 2 rfl ?_
            refine ka_iconst (v := 3) d_X5_sum_139 rfl (by decide) ?_
            refine ka_icmp_ne (tgt := 147) d_X5_sum_140 (by decide) rfl (fun c9 => ?_) (fun c9 => ?_)
            · refine ka_iconst (v := 0) d_X5_sum_147 rfl (by decide) ?_
              refine ka_sub [] rfl ?_
              exact (k10 c1 c3 c4 c6 c8 c9)
            · refine ka_iconst (v := 1) d_X5_sum_143 rfl (by decide) ?_
              refine ka_goto (q := 148) d_X5_sum_144 (by decide) ?_
              refine ka_sub [] rfl ?_
              exact (k11 c1 c3 c4 c6 c8 c9)
          · refine ka_aload_n d_X5_sum_129 rfl rfl 0 rfl ?_
            refine gf_X5_12 d_X5_sum_130 rfl fl_X5_36 ?_
            refine ka_iconst (v := 0) d_X5_sum_133 rfl (by decide) ?_
            refine ks_iald row_26 d_X5_sum_134 rfl (by unfold vp_in; decide) ?_
            refine ka_goto (q := 148) d_X5_sum_135 (by decide) ?_
            refine ka_sub [] rfl ?_
            exact (k12 c1 c3 c4 c6 c8)
    · refine ka_sub [0, 1] rfl ?_
      exact (k13 c1 c3)
theorem sg_X5_sum_20 {L : Nat} {xs : Nat → Int32} {σ : ks_St} {mc ms : Nat} {P : ka_O → ks_St → Prop} {x1 : Int32}  (k2 : (¬ (sf_ σ 25 (0 : Int32).toNatClampNeg) = 1) → ks_W L xs mX5_sum rm_X5_sum 61 [(0, .ref 17), (1, .int x1)] [] σ mc ms P) (k4 : ((sf_ σ 25 (0 : Int32).toNatClampNeg) = 1) → (¬ (sf_ σ 25 (1 : Int32).toNatClampNeg) = 1) → ks_W L xs mX5_sum rm_X5_sum 61 [(0, .ref 17), (1, .int x1)] [] σ mc ms P) (k6 : ((sf_ σ 25 (0 : Int32).toNatClampNeg) = 1) → ((sf_ σ 25 (1 : Int32).toNatClampNeg) = 1) → ((sf_ σ 26 (0 : Int32).toNatClampNeg) = (sf_ σ 26 (1 : Int32).toNatClampNeg)) → ks_W L xs mX5_sum rm_X5_sum 61 [(0, .ref 17), (1, .int x1)] [] σ mc ms P) (k7 : ((sf_ σ 25 (0 : Int32).toNatClampNeg) = 1) → ((sf_ σ 25 (1 : Int32).toNatClampNeg) = 1) → (¬ ((sf_ σ 26 (0 : Int32).toNatClampNeg) = (sf_ σ 26 (1 : Int32).toNatClampNeg))) → ks_W L xs mX5_sum rm_X5_sum 57 [] [.int x1, .ref 17] σ mc ms P) : ks_W L xs mX5_sum rm_X5_sum 20 [(0, .ref 17), (1, .int x1)] [] σ mc ms P := by
  refine ka_aload_n d_X5_sum_20 rfl rfl 0 rfl ?_
  refine gf_X5_11 d_X5_sum_21 rfl fl_X5_33 ?_
  refine ka_iconst (v := 0) d_X5_sum_24 rfl (by decide) ?_
  refine ks_iald row_25 d_X5_sum_25 rfl (by unfold vp_in; decide) ?_
  refine ka_iconst (v := 1) d_X5_sum_26 rfl (by decide) ?_
  refine ka_icmp_ne (tgt := 61) d_X5_sum_27 (by decide) rfl (fun c1 => ?_) (fun c1 => ?_)
  · exact (k2 c1)
  · refine ka_aload_n d_X5_sum_30 rfl rfl 0 rfl ?_
    refine gf_X5_11 d_X5_sum_31 rfl fl_X5_33 ?_
    refine ka_iconst (v := 1) d_X5_sum_34 rfl (by decide) ?_
    refine ks_iald row_25 d_X5_sum_35 rfl (by unfold vp_in; decide) ?_
    refine ka_iconst (v := 1) d_X5_sum_36 rfl (by decide) ?_
    refine ka_icmp_ne (tgt := 61) d_X5_sum_37 (by decide) rfl (fun c3 => ?_) (fun c3 => ?_)
    · exact (k4 c1 c3)
    · refine ka_aload_n d_X5_sum_40 rfl rfl 0 rfl ?_
      refine gf_X5_12 d_X5_sum_41 rfl fl_X5_36 ?_
      refine ka_iconst (v := 0) d_X5_sum_44 rfl (by decide) ?_
      refine ks_iald row_26 d_X5_sum_45 rfl (by unfold vp_in; decide) ?_
      refine ka_aload_n d_X5_sum_46 rfl rfl 0 rfl ?_
      refine gf_X5_12 d_X5_sum_47 rfl fl_X5_36 ?_
      refine ka_iconst (v := 1) d_X5_sum_50 rfl (by decide) ?_
      refine ks_iald row_26 d_X5_sum_51 rfl (by unfold vp_in; decide) ?_
      refine ka_icmp_eq (tgt := 61) d_X5_sum_52 (by decide) rfl (fun c5 => ?_) (fun c5 => ?_)
      · exact (k6 c1 c3 c5)
      · refine ka_aload_n d_X5_sum_55 rfl rfl 0 rfl ?_
        refine ka_iload_n d_X5_sum_56 rfl rfl 1 rfl ?_
        refine ka_sub [] rfl ?_
        exact (k7 c1 c3 c5)
theorem cs_X5_sum_57 {L : Nat} {xs : Nat → Int32} {σ : ks_St} {mc ms : Nat} {P : ka_O → ks_St → Prop} {f : Int64 → ks_St → Prop} {s1 : Int32} (hK : ks_M L xs mX5_notValid rm_X5_notValid [.ref 17, .int s1] σ (pl_ f)) (kr : ∀ r σ', f r σ' → ks_W L xs mX5_sum rm_X5_sum 60 [] [.long r] σ' mc ms P) : ks_W L xs mX5_sum rm_X5_sum 57 [] [.int s1, .ref 17] σ mc ms P := by
  refine ks_callV (q := 60) (o := 17) (ci := 5) (As := [.int s1]) (st := []) d_X5_sum_57 rfl rfl (by decide) rfl rfl lk_X5_163 ⟨by decide, by decide⟩ (Nat.le_of_ble_eq_true rfl) ⟨Nat.le_refl _, Nat.le_refl _⟩ hK (fun v σ' hq => ?_) (fun E σ' hq => ?_)
  · obtain ⟨r, e, hf⟩ := hq; cases e; exact kr r σ' hf
  · obtain ⟨r, e, hf⟩ := hq; cases e
theorem sg_X5_sum_60 {L : Nat} {xs : Nat → Int32} {σ : ks_St} {mc ms : Nat} {P : ka_O → ks_St → Prop} {s0 : Int64}  (r1 : P (.inl (some (.long s0))) σ) : ks_W L xs mX5_sum rm_X5_sum 60 [] [.long s0] σ mc ms P := by
  exact ks_lret d_X5_sum_60 rfl r1
theorem sg_X5_sum_61 {L : Nat} {xs : Nat → Int32} {σ : ks_St} {mc ms : Nat} {P : ka_O → ks_St → Prop} {x1 : Int32}  (k2 : (¬ (sf_ σ 25 (0 : Int32).toNatClampNeg) = 1) → ks_W L xs mX5_sum rm_X5_sum 87 [] [.int (sf_ σ 26 (1 : Int32).toNatClampNeg), .int x1] σ mc ms P) (k3 : ((sf_ σ 25 (0 : Int32).toNatClampNeg) = 1) → ks_W L xs mX5_sum rm_X5_sum 87 [] [.int (sf_ σ 26 (0 : Int32).toNatClampNeg), .int x1] σ mc ms P) : ks_W L xs mX5_sum rm_X5_sum 61 [(0, .ref 17), (1, .int x1)] [] σ mc ms P := by
  refine ka_iload_n d_X5_sum_61 rfl rfl 1 rfl ?_
  refine ka_aload_n d_X5_sum_62 rfl rfl 0 rfl ?_
  refine gf_X5_11 d_X5_sum_63 rfl fl_X5_33 ?_
  refine ka_iconst (v := 0) d_X5_sum_66 rfl (by decide) ?_
  refine ks_iald row_25 d_X5_sum_67 rfl (by unfold vp_in; decide) ?_
  refine ka_iconst (v := 1) d_X5_sum_68 rfl (by decide) ?_
  refine ka_icmp_ne (tgt := 81) d_X5_sum_69 (by decide) rfl (fun c1 => ?_) (fun c1 => ?_)
  · refine ka_aload_n d_X5_sum_81 rfl rfl 0 rfl ?_
    refine gf_X5_12 d_X5_sum_82 rfl fl_X5_36 ?_
    refine ka_iconst (v := 1) d_X5_sum_85 rfl (by decide) ?_
    refine ks_iald row_26 d_X5_sum_86 rfl (by unfold vp_in; decide) ?_
    refine ka_sub [] rfl ?_
    exact (k2 c1)
  · refine ka_aload_n d_X5_sum_72 rfl rfl 0 rfl ?_
    refine gf_X5_12 d_X5_sum_73 rfl fl_X5_36 ?_
    refine ka_iconst (v := 0) d_X5_sum_76 rfl (by decide) ?_
    refine ks_iald row_26 d_X5_sum_77 rfl (by unfold vp_in; decide) ?_
    refine ka_goto (q := 87) d_X5_sum_78 (by decide) ?_
    refine ka_sub [] rfl ?_
    exact (k3 c1)
theorem cs_X5_sum_87 {L : Nat} {xs : Nat → Int32} {σ : ks_St} {mc ms : Nat} {P : ka_O → ks_St → Prop} {f : Int64 → ks_St → Prop} {s0 : Int32} {s1 : Int32} (hK : ks_M L xs mX5_infinite rm_X5_infinite [.int s0, .int s1] σ (pl_ f)) (kr : ∀ r σ', f r σ' → ks_W L xs mX5_sum rm_X5_sum 90 [] [.long r] σ' mc ms P) : ks_W L xs mX5_sum rm_X5_sum 87 [] [.int s1, .int s0] σ mc ms P := by
  refine ks_callS (q := 90) (As := [.int s0, .int s1]) (st := []) d_X5_sum_87 rfl rfl lk_X5_159 ⟨by decide, by decide⟩ (Nat.le_of_ble_eq_true rfl) ⟨Nat.le_refl _, Nat.le_refl _⟩ hK (fun v σ' hq => ?_) (fun E σ' hq => ?_)
  · obtain ⟨r, e, hf⟩ := hq; cases e; exact kr r σ' hf
  · obtain ⟨r, e, hf⟩ := hq; cases e
theorem sg_X5_sum_90 {L : Nat} {xs : Nat → Int32} {σ : ks_St} {mc ms : Nat} {P : ka_O → ks_St → Prop} {s0 : Int64}  (r1 : P (.inl (some (.long s0))) σ) : ks_W L xs mX5_sum rm_X5_sum 90 [] [.long s0] σ mc ms P := by
  exact ks_lret d_X5_sum_90 rfl r1
theorem sg_X5_sum_148 {L : Nat} {xs : Nat → Int32} {σ : ks_St} {mc ms : Nat} {P : ka_O → ks_St → Prop} {s0 : Int32} {s1 : Int32}  (k1 : ks_W L xs mX5_sum rm_X5_sum 150 [] [.long 0, .int 0, .int s1, .int s0] σ mc ms P) : ks_W L xs mX5_sum rm_X5_sum 148 [] [.int s1, .int s0] σ mc ms P := by
  refine ka_iconst (v := 0) d_X5_sum_148 rfl (by decide) ?_
  refine ka_lconst (v := 0) d_X5_sum_149 rfl (by decide) ?_
  exact k1
theorem cs_X5_sum_150 {L : Nat} {xs : Nat → Int32} {σ : ks_St} {mc ms : Nat} {P : ka_O → ks_St → Prop} {f : Int64 → ks_St → Prop} {s0 : Int32} {s1 : Int32} {s2 : Int32} {s3 : Int64} (hK : ks_M L xs mX5_packed rm_X5_packed [.int s0, .int s1, .int s2, .long s3] σ (pl_ f)) (kr : ∀ r σ', f r σ' → ks_W L xs mX5_sum rm_X5_sum 153 [] [.long r] σ' mc ms P) : ks_W L xs mX5_sum rm_X5_sum 150 [] [.long s3, .int s2, .int s1, .int s0] σ mc ms P := by
  refine ks_callS (q := 153) (As := [.int s0, .int s1, .int s2, .long s3]) (st := []) d_X5_sum_150 rfl rfl lk_X5_138 ⟨by decide, by decide⟩ (Nat.le_of_ble_eq_true rfl) ⟨Nat.le_refl _, Nat.le_refl _⟩ hK (fun v σ' hq => ?_) (fun E σ' hq => ?_)
  · obtain ⟨r, e, hf⟩ := hq; cases e; exact kr r σ' hf
  · obtain ⟨r, e, hf⟩ := hq; cases e
theorem sg_X5_sum_153 {L : Nat} {xs : Nat → Int32} {σ : ks_St} {mc ms : Nat} {P : ka_O → ks_St → Prop} {s0 : Int64}  (r1 : P (.inl (some (.long s0))) σ) : ks_W L xs mX5_sum rm_X5_sum 153 [] [.long s0] σ mc ms P := by
  exact ks_lret d_X5_sum_153 rfl r1
theorem sg_X5_sum_154 {L : Nat} {xs : Nat → Int32} {σ : ks_St} {mc ms : Nat} {P : ka_O → ks_St → Prop} {x1 : Int32} {x2 : Int32}  (k2 : ((lg_cmp (sg_ σ 28 (0 : Int32).toNatClampNeg) 0) = 0) → ks_W L xs mX5_sum rm_X5_sum 176 [(0, .ref 17), (1, .int x1), (2, .int x2)] [] σ mc ms P) (k5 : (¬ ((lg_cmp (sg_ σ 28 (0 : Int32).toNatClampNeg) 0) = 0)) → (¬ (lg_cmp (sg_ σ 28 (1 : Int32).toNatClampNeg) 0) = 0) → ((sf_ σ 27 (0 : Int32).toNatClampNeg) < (sf_ σ 27 (1 : Int32).toNatClampNeg)) → ks_W L xs mX5_sum rm_X5_sum 238 [(0, .ref 17), (1, .int x1), (2, .int x2)] [.int 1] σ mc ms P) (k6 : (¬ ((lg_cmp (sg_ σ 28 (0 : Int32).toNatClampNeg) 0) = 0)) → (¬ (lg_cmp (sg_ σ 28 (1 : Int32).toNatClampNeg) 0) = 0) → (¬ ((sf_ σ 27 (0 : Int32).toNatClampNeg) < (sf_ σ 27 (1 : Int32).toNatClampNeg))) → ks_W L xs mX5_sum rm_X5_sum 238 [(0, .ref 17), (1, .int x1), (2, .int x2)] [.int 0] σ mc ms P) (k7 : (¬ ((lg_cmp (sg_ σ 28 (0 : Int32).toNatClampNeg) 0) = 0)) → ((lg_cmp (sg_ σ 28 (1 : Int32).toNatClampNeg) 0) = 0) → ks_W L xs mX5_sum rm_X5_sum 176 [(0, .ref 17), (1, .int x1), (2, .int x2)] [] σ mc ms P) : ks_W L xs mX5_sum rm_X5_sum 154 [(0, .ref 17), (1, .int x1), (2, .int x2)] [] σ mc ms P := by
  refine ka_aload_n d_X5_sum_154 rfl rfl 0 rfl ?_
  refine gf_X5_14 d_X5_sum_155 rfl fl_X5_42 ?_
  refine ka_iconst (v := 0) d_X5_sum_158 rfl (by decide) ?_
  refine ks_lald row_28 d_X5_sum_159 rfl (by unfold vp_in; decide) ?_
  refine ka_lconst (v := 0) d_X5_sum_160 rfl (by decide) ?_
  refine ka_lcmp d_X5_sum_161 rfl ?_
  refine ka_if_eq (tgt := 176) d_X5_sum_162 (by decide) rfl (fun c1 => ?_) (fun c1 => ?_)
  · exact (k2 c1)
  · refine ka_aload_n d_X5_sum_165 rfl rfl 0 rfl ?_
    refine gf_X5_14 d_X5_sum_166 rfl fl_X5_42 ?_
    refine ka_iconst (v := 1) d_X5_sum_169 rfl (by decide) ?_
    refine ks_lald row_28 d_X5_sum_170 rfl (by unfold vp_in; decide) ?_
    refine ka_lconst (v := 0) d_X5_sum_171 rfl (by decide) ?_
    refine ka_lcmp d_X5_sum_172 rfl ?_
    refine ka_if_ne (tgt := 218) d_X5_sum_173 (by decide) rfl (fun c3 => ?_) (fun c3 => ?_)
    · refine ka_aload_n d_X5_sum_218 rfl rfl 0 rfl ?_
      refine gf_X5_13 d_X5_sum_219 rfl fl_X5_39 ?_
      refine ka_iconst (v := 0) d_X5_sum_222 rfl (by decide) ?_
      refine ks_iald row_27 d_X5_sum_223 rfl (by unfold vp_in; decide) ?_
      refine ka_aload_n d_X5_sum_224 rfl rfl 0 rfl ?_
      refine gf_X5_13 d_X5_sum_225 rfl fl_X5_39 ?_
      refine ka_iconst (v := 1) d_X5_sum_228 rfl (by decide) ?_
      refine ks_iald row_27 d_X5_sum_229 rfl (by unfold vp_in; decide) ?_
      refine ka_icmp_lt (tgt := 237) d_X5_sum_230 (by decide) rfl (fun c4 => ?_) (fun c4 => ?_)
      · refine ka_iconst (v := 1) d_X5_sum_237 rfl (by decide) ?_
        exact (k5 c1 c3 c4)
      · refine ka_iconst (v := 0) d_X5_sum_233 rfl (by decide) ?_
        refine ka_goto (q := 238) d_X5_sum_234 (by decide) ?_
        exact (k6 c1 c3 c4)
    · exact (k7 c1 c3)
theorem sg_X5_sum_176 {L : Nat} {xs : Nat → Int32} {σ : ks_St} {mc ms : Nat} {P : ka_O → ks_St → Prop} {x1 : Int32} {x2 : Int32}  (k2 : (¬ (lg_cmp (sg_ σ 28 (0 : Int32).toNatClampNeg) 0) = 0) → ks_W L xs mX5_sum rm_X5_sum 192 [(0, .ref 17), (1, .int x1), (2, .int x2)] [.int 0] σ mc ms P) (k3 : ((lg_cmp (sg_ σ 28 (0 : Int32).toNatClampNeg) 0) = 0) → ks_W L xs mX5_sum rm_X5_sum 192 [(0, .ref 17), (1, .int x1), (2, .int x2)] [.int 1] σ mc ms P) : ks_W L xs mX5_sum rm_X5_sum 176 [(0, .ref 17), (1, .int x1), (2, .int x2)] [] σ mc ms P := by
  refine ka_aload_n d_X5_sum_176 rfl rfl 0 rfl ?_
  refine gf_X5_14 d_X5_sum_177 rfl fl_X5_42 ?_
  refine ka_iconst (v := 0) d_X5_sum_180 rfl (by decide) ?_
  refine ks_lald row_28 d_X5_sum_181 rfl (by unfold vp_in; decide) ?_
  refine ka_lconst (v := 0) d_X5_sum_182 rfl (by decide) ?_
  refine ka_lcmp d_X5_sum_183 rfl ?_
  refine ka_if_ne (tgt := 191) d_X5_sum_184 (by decide) rfl (fun c1 => ?_) (fun c1 => ?_)
  · refine ka_iconst (v := 0) d_X5_sum_191 rfl (by decide) ?_
    exact (k2 c1)
  · refine ka_iconst (v := 1) d_X5_sum_187 rfl (by decide) ?_
    refine ka_goto (q := 192) d_X5_sum_188 (by decide) ?_
    exact (k3 c1)
theorem sg_X5_sum_192 {L : Nat} {xs : Nat → Int32} {σ : ks_St} {mc ms : Nat} {P : ka_O → ks_St → Prop} {x1 : Int32} {x2 : Int32} {s0 : Int32}  (v1 : vp_in s0 2) (v2 : vp_in s0 2) (v3 : vp_in s0 2) (k4 : ks_W L xs mX5_sum rm_X5_sum 214 [] [.int x2, .int (sf_ σ 27 s0.toNatClampNeg), .long (sg_ σ 28 s0.toNatClampNeg), .int (sf_ σ 26 s0.toNatClampNeg), .int x1, .ref 17] σ mc ms P) : ks_W L xs mX5_sum rm_X5_sum 192 [(0, .ref 17), (1, .int x1), (2, .int x2)] [.int s0] σ mc ms P := by
  refine ka_istore_n (ls' := [(3, .int s0), (0, .ref 17), (1, .int x1), (2, .int x2)]) d_X5_sum_192 rfl rfl (by decide) rfl ?_
  refine ka_aload_n d_X5_sum_193 rfl rfl 1 rfl ?_
  refine ka_iload_n d_X5_sum_194 rfl rfl 2 rfl ?_
  refine ka_aload_n d_X5_sum_195 rfl rfl 1 rfl ?_
  refine gf_X5_12 d_X5_sum_196 rfl fl_X5_36 ?_
  refine ka_iload_n d_X5_sum_199 rfl rfl 0 rfl ?_
  refine ks_iald row_26 d_X5_sum_200 rfl v1 ?_
  refine ka_aload_n d_X5_sum_201 rfl rfl 1 rfl ?_
  refine gf_X5_14 d_X5_sum_202 rfl fl_X5_42 ?_
  refine ka_iload_n d_X5_sum_205 rfl rfl 0 rfl ?_
  refine ks_lald row_28 d_X5_sum_206 rfl v2 ?_
  refine ka_aload_n d_X5_sum_207 rfl rfl 1 rfl ?_
  refine gf_X5_13 d_X5_sum_208 rfl fl_X5_39 ?_
  refine ka_iload_n d_X5_sum_211 rfl rfl 0 rfl ?_
  refine ks_iald row_27 d_X5_sum_212 rfl v3 ?_
  refine ka_iload_n d_X5_sum_213 rfl rfl 3 rfl ?_
  refine ka_sub [] rfl ?_
  exact k4
theorem cs_X5_sum_214 {L : Nat} {xs : Nat → Int32} {σ : ks_St} {mc ms : Nat} {P : ka_O → ks_St → Prop} {f : Int64 → ks_St → Prop} {s1 : Int32} {s2 : Int32} {s3 : Int64} {s4 : Int32} {s5 : Int32} (hK : ks_M L xs mX5_rounded rm_X5_rounded [.ref 17, .int s1, .int s2, .long s3, .int s4, .int s5] σ (pl_ f)) (kr : ∀ r σ', f r σ' → ks_W L xs mX5_sum rm_X5_sum 217 [] [.long r] σ' mc ms P) : ks_W L xs mX5_sum rm_X5_sum 214 [] [.int s5, .int s4, .long s3, .int s2, .int s1, .ref 17] σ mc ms P := by
  refine ks_callV (q := 217) (o := 17) (ci := 5) (As := [.int s1, .int s2, .long s3, .int s4, .int s5]) (st := []) d_X5_sum_214 rfl rfl (by decide) rfl rfl lk_X5_166 ⟨by decide, by decide⟩ (Nat.le_of_ble_eq_true rfl) ⟨Nat.le_refl _, Nat.le_refl _⟩ hK (fun v σ' hq => ?_) (fun E σ' hq => ?_)
  · obtain ⟨r, e, hf⟩ := hq; cases e; exact kr r σ' hf
  · obtain ⟨r, e, hf⟩ := hq; cases e
theorem sg_X5_sum_217 {L : Nat} {xs : Nat → Int32} {σ : ks_St} {mc ms : Nat} {P : ka_O → ks_St → Prop} {s0 : Int64}  (r1 : P (.inl (some (.long s0))) σ) : ks_W L xs mX5_sum rm_X5_sum 217 [] [.long s0] σ mc ms P := by
  exact ks_lret d_X5_sum_217 rfl r1
theorem sg_X5_sum_238 {L : Nat} {xs : Nat → Int32} {σ : ks_St} {mc ms : Nat} {P : ka_O → ks_St → Prop} {x1 : Int32} {x2 : Int32} {s0 : Int32}  (v1 : vp_in s0 2) (v2 : vp_in (1 - s0) 2) (k4 : (((sf_ σ 27 s0.toNatClampNeg) - (sf_ σ 27 (1 - s0).toNatClampNeg)) ≤ 38) → ks_W L xs mX5_sum rm_X5_sum 272 [(0, .ref 17), (1, .int x1), (2, .int x2), (3, .int s0), (4, .int (1 - s0)), (5, .int ((sf_ σ 27 s0.toNatClampNeg) - (sf_ σ 27 (1 - s0).toNatClampNeg)))] [.int 0] σ mc ms P) (k5 : (¬ (((sf_ σ 27 s0.toNatClampNeg) - (sf_ σ 27 (1 - s0).toNatClampNeg)) ≤ 38)) → ks_W L xs mX5_sum rm_X5_sum 272 [(0, .ref 17), (1, .int x1), (2, .int x2), (3, .int s0), (4, .int (1 - s0)), (5, .int ((sf_ σ 27 s0.toNatClampNeg) - (sf_ σ 27 (1 - s0).toNatClampNeg)))] [.int 1] σ mc ms P) : ks_W L xs mX5_sum rm_X5_sum 238 [(0, .ref 17), (1, .int x1), (2, .int x2)] [.int s0] σ mc ms P := by
  refine ka_istore_n (ls' := [(3, .int s0), (0, .ref 17), (1, .int x1), (2, .int x2)]) d_X5_sum_238 rfl rfl (by decide) rfl ?_
  refine ka_iconst (v := 1) d_X5_sum_239 rfl (by decide) ?_
  refine ka_iload_n d_X5_sum_240 rfl rfl 0 rfl ?_
  refine ka_isub d_X5_sum_241 rfl ?_
  refine ka_istore (ls' := [(4, .int (1 - s0)), (3, .int s0), (0, .ref 17), (1, .int x1), (2, .int x2)]) d_X5_sum_242 rfl (by decide) rfl ?_
  refine ka_aload_n d_X5_sum_244 rfl rfl 2 rfl ?_
  refine gf_X5_13 d_X5_sum_245 rfl fl_X5_39 ?_
  refine ka_iload_n d_X5_sum_248 rfl rfl 1 rfl ?_
  refine ks_iald row_27 d_X5_sum_249 rfl v1 ?_
  refine ka_aload_n d_X5_sum_250 rfl rfl 2 rfl ?_
  refine gf_X5_13 d_X5_sum_251 rfl fl_X5_39 ?_
  refine ka_iload d_X5_sum_254 rfl 0 rfl ?_
  refine ks_iald row_27 d_X5_sum_256 rfl v2 ?_
  refine ka_isub d_X5_sum_257 rfl ?_
  refine ka_istore (ls' := [(5, .int ((sf_ σ 27 s0.toNatClampNeg) - (sf_ σ 27 (1 - s0).toNatClampNeg))), (4, .int (1 - s0)), (3, .int s0), (0, .ref 17), (1, .int x1), (2, .int x2)]) d_X5_sum_258 rfl (by decide) rfl ?_
  refine ka_iload d_X5_sum_260 rfl 0 rfl ?_
  refine ka_bipush (v := 38) d_X5_sum_262 rfl (by decide) ?_
  refine ka_icmp_le (tgt := 271) d_X5_sum_264 (by decide) rfl (fun c3 => ?_) (fun c3 => ?_)
  · refine ka_iconst (v := 0) d_X5_sum_271 rfl (by decide) ?_
    refine ka_sub [3, 4, 5, 2, 1, 0] rfl ?_
    exact (k4 c3)
  · refine ka_iconst (v := 1) d_X5_sum_267 rfl (by decide) ?_
    refine ka_goto (q := 272) d_X5_sum_268 (by decide) ?_
    refine ka_sub [3, 4, 5, 2, 1, 0] rfl ?_
    exact (k5 c3)
theorem sg_X5_sum_272 {L : Nat} {xs : Nat → Int32} {σ : ks_St} {mc ms : Nat} {P : ka_O → ks_St → Prop} {x1 : Int32} {x2 : Int32} {x3 : Int32} {x4 : Int32} {x5 : Int32} {s0 : Int32}  (v1 : vp_in x3 2) (k3 : (s0 = 0) → ks_W L xs mX5_sum rm_X5_sum 292 [(0, .ref 17), (1, .int x1), (2, .int x2), (3, .int x3), (4, .int x4), (6, .int s0)] [.int x5, .long (sg_ σ 28 x3.toNatClampNeg)] σ mc ms P) (k4 : (¬ (s0 = 0)) → ks_W L xs mX5_sum rm_X5_sum 292 [(0, .ref 17), (1, .int x1), (2, .int x2), (3, .int x3), (4, .int x4), (6, .int s0)] [.int 15, .long (sg_ σ 28 x3.toNatClampNeg)] σ mc ms P) : ks_W L xs mX5_sum rm_X5_sum 272 [(0, .ref 17), (1, .int x1), (2, .int x2), (3, .int x3), (4, .int x4), (5, .int x5)] [.int s0] σ mc ms P := by
  refine ka_istore (ls' := [(6, .int s0), (0, .ref 17), (1, .int x1), (2, .int x2), (3, .int x3), (4, .int x4), (5, .int x5)]) d_X5_sum_272 rfl (by decide) rfl ?_
  refine ka_aload_n d_X5_sum_274 rfl rfl 1 rfl ?_
  refine gf_X5_14 d_X5_sum_275 rfl fl_X5_42 ?_
  refine ka_iload_n d_X5_sum_278 rfl rfl 4 rfl ?_
  refine ks_lald row_28 d_X5_sum_279 rfl v1 ?_
  refine ka_iload d_X5_sum_280 rfl 0 rfl ?_
  refine ka_if_eq (tgt := 290) d_X5_sum_282 (by decide) rfl (fun c2 => ?_) (fun c2 => ?_)
  · refine ka_iload d_X5_sum_290 rfl 6 rfl ?_
    refine ka_sub [1, 2, 3, 4, 5, 0] rfl ?_
    exact (k3 c2)
  · refine ka_bipush (v := 15) d_X5_sum_285 rfl (by decide) ?_
    refine ka_goto (q := 292) d_X5_sum_287 (by decide) ?_
    refine ka_sub [1, 2, 3, 4, 5, 0] rfl ?_
    exact (k4 c2)
theorem sg_X5_sum_292 {L : Nat} {xs : Nat → Int32} {σ : ks_St} {mc ms : Nat} {P : ka_O → ks_St → Prop} {x1 : Int32} {x2 : Int32} {x3 : Int32} {x4 : Int32} {x6 : Int32} {s0 : Int64} {s1 : Int32}  (v2 : (x6 = 0) → vp_in x4 2) (k3 : (x6 = 0) → ks_W L xs mX5_sum rm_X5_sum 311 [(0, .ref 17), (1, .int x1), (2, .int x2), (3, .int x3), (4, .int x4), (6, .int x6), (7, .long (s0 <<< ((s1).toInt64 &&& 63)))] [.long (sg_ σ 28 x4.toNatClampNeg)] σ mc ms P) (k4 : (¬ (x6 = 0)) → ks_W L xs mX5_sum rm_X5_sum 311 [(0, .ref 17), (1, .int x1), (2, .int x2), (3, .int x3), (4, .int x4), (6, .int x6), (7, .long (s0 <<< ((s1).toInt64 &&& 63)))] [.long 1] σ mc ms P) : ks_W L xs mX5_sum rm_X5_sum 292 [(0, .ref 17), (1, .int x1), (2, .int x2), (3, .int x3), (4, .int x4), (6, .int x6)] [.int s1, .long s0] σ mc ms P := by
  refine ka_lshl d_X5_sum_292 rfl ?_
  refine ka_lstore (ls' := [(7, .long (s0 <<< ((s1).toInt64 &&& 63))), (0, .ref 17), (1, .int x1), (2, .int x2), (3, .int x3), (4, .int x4), (6, .int x6)]) d_X5_sum_293 rfl (by decide) rfl ?_
  refine ka_iload d_X5_sum_295 rfl 6 rfl ?_
  refine ka_if_eq (tgt := 304) d_X5_sum_297 (by decide) rfl (fun c1 => ?_) (fun c1 => ?_)
  · refine ka_aload_n d_X5_sum_304 rfl rfl 1 rfl ?_
    refine gf_X5_14 d_X5_sum_305 rfl fl_X5_42 ?_
    refine ka_iload d_X5_sum_308 rfl 5 rfl ?_
    refine ks_lald row_28 d_X5_sum_310 rfl (v2 c1) ?_
    refine ka_sub [1, 2, 3, 4, 5, 6, 0] rfl ?_
    exact (k3 c1)
  · refine ka_lconst (v := 1) d_X5_sum_300 rfl (by decide) ?_
    refine ka_goto (q := 311) d_X5_sum_301 (by decide) ?_
    refine ka_sub [1, 2, 3, 4, 5, 6, 0] rfl ?_
    exact (k4 c1)
theorem sg_X5_sum_311 {L : Nat} {xs : Nat → Int32} {σ : ks_St} {mc ms : Nat} {P : ka_O → ks_St → Prop} {x1 : Int32} {x2 : Int32} {x3 : Int32} {x4 : Int32} {x6 : Int32} {x7 : Int64} {s0 : Int64}  (v2 : (x6 = 0) → vp_in x4 2) (k3 : (x6 = 0) → ks_W L xs mX5_sum rm_X5_sum 337 [(0, .ref 17), (1, .int x1), (2, .int x2), (3, .int x3), (4, .int x4), (7, .long x7), (9, .long s0)] [.int (sf_ σ 27 x4.toNatClampNeg)] σ mc ms P) (v4 : (¬ (x6 = 0)) → vp_in x3 2) (k5 : (¬ (x6 = 0)) → ks_W L xs mX5_sum rm_X5_sum 337 [(0, .ref 17), (1, .int x1), (2, .int x2), (3, .int x3), (4, .int x4), (7, .long x7), (9, .long s0)] [.int ((sf_ σ 27 x3.toNatClampNeg) - 15)] σ mc ms P) : ks_W L xs mX5_sum rm_X5_sum 311 [(0, .ref 17), (1, .int x1), (2, .int x2), (3, .int x3), (4, .int x4), (6, .int x6), (7, .long x7)] [.long s0] σ mc ms P := by
  refine ka_lstore (ls' := [(9, .long s0), (0, .ref 17), (1, .int x1), (2, .int x2), (3, .int x3), (4, .int x4), (6, .int x6), (7, .long x7)]) d_X5_sum_311 rfl (by decide) rfl ?_
  refine ka_iload d_X5_sum_313 rfl 6 rfl ?_
  refine ka_if_eq (tgt := 330) d_X5_sum_315 (by decide) rfl (fun c1 => ?_) (fun c1 => ?_)
  · refine ka_aload_n d_X5_sum_330 rfl rfl 1 rfl ?_
    refine gf_X5_13 d_X5_sum_331 rfl fl_X5_39 ?_
    refine ka_iload d_X5_sum_334 rfl 5 rfl ?_
    refine ks_iald row_27 d_X5_sum_336 rfl (v2 c1) ?_
    refine ka_sub [1, 2, 3, 4, 5, 7, 0] rfl ?_
    exact (k3 c1)
  · refine ka_aload_n d_X5_sum_318 rfl rfl 1 rfl ?_
    refine gf_X5_13 d_X5_sum_319 rfl fl_X5_39 ?_
    refine ka_iload_n d_X5_sum_322 rfl rfl 4 rfl ?_
    refine ks_iald row_27 d_X5_sum_323 rfl (v4 c1) ?_
    refine ka_bipush (v := 15) d_X5_sum_324 rfl (by decide) ?_
    refine ka_isub d_X5_sum_326 rfl ?_
    refine ka_goto (q := 337) d_X5_sum_327 (by decide) ?_
    refine ka_sub [1, 2, 3, 4, 5, 7, 0] rfl ?_
    exact (k5 c1)
theorem sg_X5_sum_337 {L : Nat} {xs : Nat → Int32} {σ : ks_St} {mc ms : Nat} {P : ka_O → ks_St → Prop} {x1 : Int32} {x2 : Int32} {x3 : Int32} {x4 : Int32} {x7 : Int64} {x9 : Int64} {s0 : Int32}  (v4 : (¬ (sf_ σ 26 (0 : Int32).toNatClampNeg) = (sf_ σ 26 (1 : Int32).toNatClampNeg)) → (¬ (lg_cmp x7 x9) = 0) → ((lg_cmp x7 x9) ≤ 0) → vp_in x4 2) (k5 : (¬ (sf_ σ 26 (0 : Int32).toNatClampNeg) = (sf_ σ 26 (1 : Int32).toNatClampNeg)) → (¬ (lg_cmp x7 x9) = 0) → ((lg_cmp x7 x9) ≤ 0) → ks_W L xs mX5_sum rm_X5_sum 446 [] [.int x2, .int s0, .long (x9 - x7), .int (sf_ σ 26 x4.toNatClampNeg), .int x1, .ref 17] σ mc ms P) (v6 : (¬ (sf_ σ 26 (0 : Int32).toNatClampNeg) = (sf_ σ 26 (1 : Int32).toNatClampNeg)) → (¬ (lg_cmp x7 x9) = 0) → (¬ ((lg_cmp x7 x9) ≤ 0)) → vp_in x3 2) (k7 : (¬ (sf_ σ 26 (0 : Int32).toNatClampNeg) = (sf_ σ 26 (1 : Int32).toNatClampNeg)) → (¬ (lg_cmp x7 x9) = 0) → (¬ ((lg_cmp x7 x9) ≤ 0)) → ks_W L xs mX5_sum rm_X5_sum 423 [] [.int x2, .int s0, .long (x7 - x9), .int (sf_ σ 26 x3.toNatClampNeg), .int x1, .ref 17] σ mc ms P) (k9 : (¬ (sf_ σ 26 (0 : Int32).toNatClampNeg) = (sf_ σ 26 (1 : Int32).toNatClampNeg)) → ((lg_cmp x7 x9) = 0) → (¬ x2 = 3) → ks_W L xs mX5_sum rm_X5_sum 393 [] [.int 0, .int x1] σ mc ms P) (k10 : (¬ (sf_ σ 26 (0 : Int32).toNatClampNeg) = (sf_ σ 26 (1 : Int32).toNatClampNeg)) → ((lg_cmp x7 x9) = 0) → (x2 = 3) → ks_W L xs mX5_sum rm_X5_sum 393 [] [.int 1, .int x1] σ mc ms P) (k11 : ((sf_ σ 26 (0 : Int32).toNatClampNeg) = (sf_ σ 26 (1 : Int32).toNatClampNeg)) → ks_W L xs mX5_sum rm_X5_sum 370 [] [.int x2, .int s0, .long (x7 + x9), .int (sf_ σ 26 (0 : Int32).toNatClampNeg), .int x1, .ref 17] σ mc ms P) : ks_W L xs mX5_sum rm_X5_sum 337 [(0, .ref 17), (1, .int x1), (2, .int x2), (3, .int x3), (4, .int x4), (7, .long x7), (9, .long x9)] [.int s0] σ mc ms P := by
  refine ka_istore (ls' := [(11, .int s0), (0, .ref 17), (1, .int x1), (2, .int x2), (3, .int x3), (4, .int x4), (7, .long x7), (9, .long x9)]) d_X5_sum_337 rfl (by decide) rfl ?_
  refine ka_aload_n d_X5_sum_339 rfl rfl 1 rfl ?_
  refine gf_X5_12 d_X5_sum_340 rfl fl_X5_36 ?_
  refine ka_iconst (v := 0) d_X5_sum_343 rfl (by decide) ?_
  refine ks_iald row_26 d_X5_sum_344 rfl (by unfold vp_in; decide) ?_
  refine ka_aload_n d_X5_sum_345 rfl rfl 1 rfl ?_
  refine gf_X5_12 d_X5_sum_346 rfl fl_X5_36 ?_
  refine ka_iconst (v := 1) d_X5_sum_349 rfl (by decide) ?_
  refine ks_iald row_26 d_X5_sum_350 rfl (by unfold vp_in; decide) ?_
  refine ka_icmp_ne (tgt := 374) d_X5_sum_351 (by decide) rfl (fun c1 => ?_) (fun c1 => ?_)
  · refine ka_lload d_X5_sum_374 rfl 6 rfl ?_
    refine ka_lload d_X5_sum_376 rfl 7 rfl ?_
    refine ka_lcmp d_X5_sum_378 rfl ?_
    refine ka_if_ne (tgt := 399) d_X5_sum_379 (by decide) rfl (fun c2 => ?_) (fun c2 => ?_)
    · refine ka_lload d_X5_sum_399 rfl 6 rfl ?_
      refine ka_lload d_X5_sum_401 rfl 7 rfl ?_
      refine ka_lcmp d_X5_sum_403 rfl ?_
      refine ka_if_le (tgt := 429) d_X5_sum_404 (by decide) rfl (fun c3 => ?_) (fun c3 => ?_)
      · refine ka_aload_n d_X5_sum_429 rfl rfl 1 rfl ?_
        refine ka_iload_n d_X5_sum_430 rfl rfl 2 rfl ?_
        refine ka_aload_n d_X5_sum_431 rfl rfl 1 rfl ?_
        refine gf_X5_12 d_X5_sum_432 rfl fl_X5_36 ?_
        refine ka_iload d_X5_sum_435 rfl 5 rfl ?_
        refine ks_iald row_26 d_X5_sum_437 rfl (v4 c1 c2 c3) ?_
        refine ka_lload d_X5_sum_438 rfl 7 rfl ?_
        refine ka_lload d_X5_sum_440 rfl 6 rfl ?_
        refine ka_lsub d_X5_sum_442 rfl ?_
        refine ka_iload d_X5_sum_443 rfl 0 rfl ?_
        refine ka_iload_n d_X5_sum_445 rfl rfl 3 rfl ?_
        refine ka_sub [] rfl ?_
        exact (k5 c1 c2 c3)
      · refine ka_aload_n d_X5_sum_407 rfl rfl 1 rfl ?_
        refine ka_iload_n d_X5_sum_408 rfl rfl 2 rfl ?_
        refine ka_aload_n d_X5_sum_409 rfl rfl 1 rfl ?_
        refine gf_X5_12 d_X5_sum_410 rfl fl_X5_36 ?_
        refine ka_iload_n d_X5_sum_413 rfl rfl 4 rfl ?_
        refine ks_iald row_26 d_X5_sum_414 rfl (v6 c1 c2 c3) ?_
        refine ka_lload d_X5_sum_415 rfl 6 rfl ?_
        refine ka_lload d_X5_sum_417 rfl 7 rfl ?_
        refine ka_lsub d_X5_sum_419 rfl ?_
        refine ka_iload d_X5_sum_420 rfl 0 rfl ?_
        refine ka_iload_n d_X5_sum_422 rfl rfl 3 rfl ?_
        refine ka_sub [] rfl ?_
        exact (k7 c1 c2 c3)
    · refine ka_iload_n d_X5_sum_382 rfl rfl 2 rfl ?_
      refine ka_iload_n d_X5_sum_383 rfl rfl 3 rfl ?_
      refine ka_iconst (v := 3) d_X5_sum_384 rfl (by decide) ?_
      refine ka_icmp_ne (tgt := 392) d_X5_sum_385 (by decide) rfl (fun c8 => ?_) (fun c8 => ?_)
      · refine ka_iconst (v := 0) d_X5_sum_392 rfl (by decide) ?_
        refine ka_sub [] rfl ?_
        exact (k9 c1 c2 c8)
      · refine ka_iconst (v := 1) d_X5_sum_388 rfl (by decide) ?_
        refine ka_goto (q := 393) d_X5_sum_389 (by decide) ?_
        refine ka_sub [] rfl ?_
        exact (k10 c1 c2 c8)
  · refine ka_aload_n d_X5_sum_354 rfl rfl 1 rfl ?_
    refine ka_iload_n d_X5_sum_355 rfl rfl 2 rfl ?_
    refine ka_aload_n d_X5_sum_356 rfl rfl 1 rfl ?_
    refine gf_X5_12 d_X5_sum_357 rfl fl_X5_36 ?_
    refine ka_iconst (v := 0) d_X5_sum_360 rfl (by decide) ?_
    refine ks_iald row_26 d_X5_sum_361 rfl (by unfold vp_in; decide) ?_
    refine ka_lload d_X5_sum_362 rfl 6 rfl ?_
    refine ka_lload d_X5_sum_364 rfl 7 rfl ?_
    refine ka_ladd d_X5_sum_366 rfl ?_
    refine ka_iload d_X5_sum_367 rfl 0 rfl ?_
    refine ka_iload_n d_X5_sum_369 rfl rfl 3 rfl ?_
    refine ka_sub [] rfl ?_
    exact (k11 c1)
theorem cs_X5_sum_370 {L : Nat} {xs : Nat → Int32} {σ : ks_St} {mc ms : Nat} {P : ka_O → ks_St → Prop} {f : Int64 → ks_St → Prop} {s1 : Int32} {s2 : Int32} {s3 : Int64} {s4 : Int32} {s5 : Int32} (hK : ks_M L xs mX5_rounded rm_X5_rounded [.ref 17, .int s1, .int s2, .long s3, .int s4, .int s5] σ (pl_ f)) (kr : ∀ r σ', f r σ' → ks_W L xs mX5_sum rm_X5_sum 373 [] [.long r] σ' mc ms P) : ks_W L xs mX5_sum rm_X5_sum 370 [] [.int s5, .int s4, .long s3, .int s2, .int s1, .ref 17] σ mc ms P := by
  refine ks_callV (q := 373) (o := 17) (ci := 5) (As := [.int s1, .int s2, .long s3, .int s4, .int s5]) (st := []) d_X5_sum_370 rfl rfl (by decide) rfl rfl lk_X5_166 ⟨by decide, by decide⟩ (Nat.le_of_ble_eq_true rfl) ⟨Nat.le_refl _, Nat.le_refl _⟩ hK (fun v σ' hq => ?_) (fun E σ' hq => ?_)
  · obtain ⟨r, e, hf⟩ := hq; cases e; exact kr r σ' hf
  · obtain ⟨r, e, hf⟩ := hq; cases e
theorem sg_X5_sum_373 {L : Nat} {xs : Nat → Int32} {σ : ks_St} {mc ms : Nat} {P : ka_O → ks_St → Prop} {s0 : Int64}  (r1 : P (.inl (some (.long s0))) σ) : ks_W L xs mX5_sum rm_X5_sum 373 [] [.long s0] σ mc ms P := by
  exact ks_lret d_X5_sum_373 rfl r1
theorem sg_X5_sum_393 {L : Nat} {xs : Nat → Int32} {σ : ks_St} {mc ms : Nat} {P : ka_O → ks_St → Prop} {s0 : Int32} {s1 : Int32}  (k1 : ks_W L xs mX5_sum rm_X5_sum 395 [] [.long 0, .int 0, .int s1, .int s0] σ mc ms P) : ks_W L xs mX5_sum rm_X5_sum 393 [] [.int s1, .int s0] σ mc ms P := by
  refine ka_iconst (v := 0) d_X5_sum_393 rfl (by decide) ?_
  refine ka_lconst (v := 0) d_X5_sum_394 rfl (by decide) ?_
  exact k1
theorem cs_X5_sum_395 {L : Nat} {xs : Nat → Int32} {σ : ks_St} {mc ms : Nat} {P : ka_O → ks_St → Prop} {f : Int64 → ks_St → Prop} {s0 : Int32} {s1 : Int32} {s2 : Int32} {s3 : Int64} (hK : ks_M L xs mX5_packed rm_X5_packed [.int s0, .int s1, .int s2, .long s3] σ (pl_ f)) (kr : ∀ r σ', f r σ' → ks_W L xs mX5_sum rm_X5_sum 398 [] [.long r] σ' mc ms P) : ks_W L xs mX5_sum rm_X5_sum 395 [] [.long s3, .int s2, .int s1, .int s0] σ mc ms P := by
  refine ks_callS (q := 398) (As := [.int s0, .int s1, .int s2, .long s3]) (st := []) d_X5_sum_395 rfl rfl lk_X5_138 ⟨by decide, by decide⟩ (Nat.le_of_ble_eq_true rfl) ⟨Nat.le_refl _, Nat.le_refl _⟩ hK (fun v σ' hq => ?_) (fun E σ' hq => ?_)
  · obtain ⟨r, e, hf⟩ := hq; cases e; exact kr r σ' hf
  · obtain ⟨r, e, hf⟩ := hq; cases e
theorem sg_X5_sum_398 {L : Nat} {xs : Nat → Int32} {σ : ks_St} {mc ms : Nat} {P : ka_O → ks_St → Prop} {s0 : Int64}  (r1 : P (.inl (some (.long s0))) σ) : ks_W L xs mX5_sum rm_X5_sum 398 [] [.long s0] σ mc ms P := by
  exact ks_lret d_X5_sum_398 rfl r1
theorem cs_X5_sum_423 {L : Nat} {xs : Nat → Int32} {σ : ks_St} {mc ms : Nat} {P : ka_O → ks_St → Prop} {f : Int64 → ks_St → Prop} {s1 : Int32} {s2 : Int32} {s3 : Int64} {s4 : Int32} {s5 : Int32} (hK : ks_M L xs mX5_rounded rm_X5_rounded [.ref 17, .int s1, .int s2, .long s3, .int s4, .int s5] σ (pl_ f)) (kr : ∀ r σ', f r σ' → ks_W L xs mX5_sum rm_X5_sum 426 [] [.long r] σ' mc ms P) : ks_W L xs mX5_sum rm_X5_sum 423 [] [.int s5, .int s4, .long s3, .int s2, .int s1, .ref 17] σ mc ms P := by
  refine ks_callV (q := 426) (o := 17) (ci := 5) (As := [.int s1, .int s2, .long s3, .int s4, .int s5]) (st := []) d_X5_sum_423 rfl rfl (by decide) rfl rfl lk_X5_166 ⟨by decide, by decide⟩ (Nat.le_of_ble_eq_true rfl) ⟨Nat.le_refl _, Nat.le_refl _⟩ hK (fun v σ' hq => ?_) (fun E σ' hq => ?_)
  · obtain ⟨r, e, hf⟩ := hq; cases e; exact kr r σ' hf
  · obtain ⟨r, e, hf⟩ := hq; cases e
theorem sg_X5_sum_426 {L : Nat} {xs : Nat → Int32} {σ : ks_St} {mc ms : Nat} {P : ka_O → ks_St → Prop} {s0 : Int64}  (k1 : ks_W L xs mX5_sum rm_X5_sum 449 [] [.long s0] σ mc ms P) : ks_W L xs mX5_sum rm_X5_sum 426 [] [.long s0] σ mc ms P := by
  refine ka_goto (q := 449) d_X5_sum_426 (by decide) ?_
  exact k1
theorem cs_X5_sum_446 {L : Nat} {xs : Nat → Int32} {σ : ks_St} {mc ms : Nat} {P : ka_O → ks_St → Prop} {f : Int64 → ks_St → Prop} {s1 : Int32} {s2 : Int32} {s3 : Int64} {s4 : Int32} {s5 : Int32} (hK : ks_M L xs mX5_rounded rm_X5_rounded [.ref 17, .int s1, .int s2, .long s3, .int s4, .int s5] σ (pl_ f)) (kr : ∀ r σ', f r σ' → ks_W L xs mX5_sum rm_X5_sum 449 [] [.long r] σ' mc ms P) : ks_W L xs mX5_sum rm_X5_sum 446 [] [.int s5, .int s4, .long s3, .int s2, .int s1, .ref 17] σ mc ms P := by
  refine ks_callV (q := 449) (o := 17) (ci := 5) (As := [.int s1, .int s2, .long s3, .int s4, .int s5]) (st := []) d_X5_sum_446 rfl rfl (by decide) rfl rfl lk_X5_166 ⟨by decide, by decide⟩ (Nat.le_of_ble_eq_true rfl) ⟨Nat.le_refl _, Nat.le_refl _⟩ hK (fun v σ' hq => ?_) (fun E σ' hq => ?_)
  · obtain ⟨r, e, hf⟩ := hq; cases e; exact kr r σ' hf
  · obtain ⟨r, e, hf⟩ := hq; cases e
theorem sg_X5_sum_449 {L : Nat} {xs : Nat → Int32} {σ : ks_St} {mc ms : Nat} {P : ka_O → ks_St → Prop} {s0 : Int64}  (r1 : P (.inl (some (.long s0))) σ) : ks_W L xs mX5_sum rm_X5_sum 449 [] [.long s0] σ mc ms P := by
  exact ks_lret d_X5_sum_449 rfl r1
theorem d_X5_product_0 : decode cX5_product 0 = .ok (.aload_n 0, 1) := by decide +kernel
theorem d_X5_product_1 : decode cX5_product 1 = .ok (.getfield 36, 3) := by decide +kernel
theorem d_X5_product_4 : decode cX5_product 4 = .ok (.iconst 0, 1) := by decide +kernel
theorem d_X5_product_5 : decode cX5_product 5 = .ok (.iaload, 1) := by decide +kernel
theorem d_X5_product_6 : decode cX5_product 6 = .ok (.aload_n 0, 1) := by decide +kernel
theorem d_X5_product_7 : decode cX5_product 7 = .ok (.getfield 36, 3) := by decide +kernel
theorem d_X5_product_10 : decode cX5_product 10 = .ok (.iconst 1, 1) := by decide +kernel
theorem d_X5_product_11 : decode cX5_product 11 = .ok (.iaload, 1) := by decide +kernel
theorem d_X5_product_12 : decode cX5_product 12 = .ok (.ixor, 1) := by decide +kernel
theorem d_X5_product_13 : decode cX5_product 13 = .ok (.istore_n 3, 1) := by decide +kernel
theorem d_X5_product_14 : decode cX5_product 14 = .ok (.aload_n 0, 1) := by decide +kernel
theorem d_X5_product_15 : decode cX5_product 15 = .ok (.getfield 33, 3) := by decide +kernel
theorem d_X5_product_18 : decode cX5_product 18 = .ok (.iconst 0, 1) := by decide +kernel
theorem d_X5_product_19 : decode cX5_product 19 = .ok (.iaload, 1) := by decide +kernel
theorem d_X5_product_20 : decode cX5_product 20 = .ok (.ifCond .ne 14, 3) := by decide +kernel
theorem d_X5_product_23 : decode cX5_product 23 = .ok (.aload_n 0, 1) := by decide +kernel
theorem d_X5_product_24 : decode cX5_product 24 = .ok (.getfield 42, 3) := by decide +kernel
theorem d_X5_product_27 : decode cX5_product 27 = .ok (.iconst 0, 1) := by decide +kernel
theorem d_X5_product_28 : decode cX5_product 28 = .ok (.laload, 1) := by decide +kernel
theorem d_X5_product_29 : decode cX5_product 29 = .ok (.lconst 0, 1) := by decide +kernel
theorem d_X5_product_30 : decode cX5_product 30 = .ok (.lcmp, 1) := by decide +kernel
theorem d_X5_product_31 : decode cX5_product 31 = .ok (.ifCond .eq 23, 3) := by decide +kernel
theorem d_X5_product_34 : decode cX5_product 34 = .ok (.aload_n 0, 1) := by decide +kernel
theorem d_X5_product_35 : decode cX5_product 35 = .ok (.getfield 33, 3) := by decide +kernel
theorem d_X5_product_38 : decode cX5_product 38 = .ok (.iconst 1, 1) := by decide +kernel
theorem d_X5_product_39 : decode cX5_product 39 = .ok (.iaload, 1) := by decide +kernel
theorem d_X5_product_40 : decode cX5_product 40 = .ok (.ifCond .ne 18, 3) := by decide +kernel
theorem d_X5_product_43 : decode cX5_product 43 = .ok (.aload_n 0, 1) := by decide +kernel
theorem d_X5_product_44 : decode cX5_product 44 = .ok (.getfield 42, 3) := by decide +kernel
theorem d_X5_product_47 : decode cX5_product 47 = .ok (.iconst 1, 1) := by decide +kernel
theorem d_X5_product_48 : decode cX5_product 48 = .ok (.laload, 1) := by decide +kernel
theorem d_X5_product_49 : decode cX5_product 49 = .ok (.lconst 0, 1) := by decide +kernel
theorem d_X5_product_50 : decode cX5_product 50 = .ok (.lcmp, 1) := by decide +kernel
theorem d_X5_product_51 : decode cX5_product 51 = .ok (.ifCond .ne 7, 3) := by decide +kernel
theorem d_X5_product_54 : decode cX5_product 54 = .ok (.iconst 1, 1) := by decide +kernel
theorem d_X5_product_55 : decode cX5_product 55 = .ok (.goto 4, 3) := by decide +kernel
theorem d_X5_product_58 : decode cX5_product 58 = .ok (.iconst 0, 1) := by decide +kernel
theorem d_X5_product_59 : decode cX5_product 59 = .ok (.istore 4, 2) := by decide +kernel
theorem d_X5_product_61 : decode cX5_product 61 = .ok (.aload_n 0, 1) := by decide +kernel
theorem d_X5_product_62 : decode cX5_product 62 = .ok (.getfield 33, 3) := by decide +kernel
theorem d_X5_product_65 : decode cX5_product 65 = .ok (.iconst 0, 1) := by decide +kernel
theorem d_X5_product_66 : decode cX5_product 66 = .ok (.iaload, 1) := by decide +kernel
theorem d_X5_product_67 : decode cX5_product 67 = .ok (.iconst 1, 1) := by decide +kernel
theorem d_X5_product_68 : decode cX5_product 68 = .ok (.if_icmp .eq 13, 3) := by decide +kernel
theorem d_X5_product_71 : decode cX5_product 71 = .ok (.aload_n 0, 1) := by decide +kernel
theorem d_X5_product_72 : decode cX5_product 72 = .ok (.getfield 33, 3) := by decide +kernel
theorem d_X5_product_75 : decode cX5_product 75 = .ok (.iconst 1, 1) := by decide +kernel
theorem d_X5_product_76 : decode cX5_product 76 = .ok (.iaload, 1) := by decide +kernel
theorem d_X5_product_77 : decode cX5_product 77 = .ok (.iconst 1, 1) := by decide +kernel
theorem d_X5_product_78 : decode cX5_product 78 = .ok (.if_icmp .ne 22, 3) := by decide +kernel
theorem d_X5_product_81 : decode cX5_product 81 = .ok (.iload 4, 2) := by decide +kernel
theorem d_X5_product_83 : decode cX5_product 83 = .ok (.ifCond .eq 11, 3) := by decide +kernel
theorem d_X5_product_86 : decode cX5_product 86 = .ok (.aload_n 0, 1) := by decide +kernel
theorem d_X5_product_87 : decode cX5_product 87 = .ok (.iload_n 1, 1) := by decide +kernel
theorem d_X5_product_88 : decode cX5_product 88 = .ok (.invokevirtual 163, 3) := by decide +kernel
theorem d_X5_product_91 : decode cX5_product 91 = .ok (.goto 8, 3) := by decide +kernel
theorem d_X5_product_94 : decode cX5_product 94 = .ok (.iload_n 1, 1) := by decide +kernel
theorem d_X5_product_95 : decode cX5_product 95 = .ok (.iload_n 3, 1) := by decide +kernel
theorem d_X5_product_96 : decode cX5_product 96 = .ok (.invokestatic 159, 3) := by decide +kernel
theorem d_X5_product_99 : decode cX5_product 99 = .ok (.lreturn, 1) := by decide +kernel
theorem d_X5_product_100 : decode cX5_product 100 = .ok (.iload 4, 2) := by decide +kernel
theorem d_X5_product_102 : decode cX5_product 102 = .ok (.ifCond .eq 13, 3) := by decide +kernel
theorem d_X5_product_105 : decode cX5_product 105 = .ok (.iload_n 1, 1) := by decide +kernel
theorem d_X5_product_106 : decode cX5_product 106 = .ok (.iload_n 3, 1) := by decide +kernel
theorem d_X5_product_107 : decode cX5_product 107 = .ok (.iconst 0, 1) := by decide +kernel
theorem d_X5_product_108 : decode cX5_product 108 = .ok (.lconst 0, 1) := by decide +kernel
theorem d_X5_product_109 : decode cX5_product 109 = .ok (.invokestatic 138, 3) := by decide +kernel
theorem d_X5_product_112 : decode cX5_product 112 = .ok (.goto 36, 3) := by decide +kernel
theorem d_X5_product_115 : decode cX5_product 115 = .ok (.aload_n 0, 1) := by decide +kernel
theorem d_X5_product_116 : decode cX5_product 116 = .ok (.iload_n 1, 1) := by decide +kernel
theorem d_X5_product_117 : decode cX5_product 117 = .ok (.iload_n 3, 1) := by decide +kernel
theorem d_X5_product_118 : decode cX5_product 118 = .ok (.aload_n 0, 1) := by decide +kernel
theorem d_X5_product_119 : decode cX5_product 119 = .ok (.getfield 42, 3) := by decide +kernel
theorem d_X5_product_122 : decode cX5_product 122 = .ok (.iconst 0, 1) := by decide +kernel
theorem d_X5_product_123 : decode cX5_product 123 = .ok (.laload, 1) := by decide +kernel
theorem d_X5_product_124 : decode cX5_product 124 = .ok (.aload_n 0, 1) := by decide +kernel
theorem d_X5_product_125 : decode cX5_product 125 = .ok (.getfield 42, 3) := by decide +kernel
theorem d_X5_product_128 : decode cX5_product 128 = .ok (.iconst 1, 1) := by decide +kernel
theorem d_X5_product_129 : decode cX5_product 129 = .ok (.laload, 1) := by decide +kernel
theorem d_X5_product_130 : decode cX5_product 130 = .ok (.lmul, 1) := by decide +kernel
theorem d_X5_product_131 : decode cX5_product 131 = .ok (.aload_n 0, 1) := by decide +kernel
theorem d_X5_product_132 : decode cX5_product 132 = .ok (.getfield 39, 3) := by decide +kernel
theorem d_X5_product_135 : decode cX5_product 135 = .ok (.iconst 0, 1) := by decide +kernel
theorem d_X5_product_136 : decode cX5_product 136 = .ok (.iaload, 1) := by decide +kernel
theorem d_X5_product_137 : decode cX5_product 137 = .ok (.aload_n 0, 1) := by decide +kernel
theorem d_X5_product_138 : decode cX5_product 138 = .ok (.getfield 39, 3) := by decide +kernel
theorem d_X5_product_141 : decode cX5_product 141 = .ok (.iconst 1, 1) := by decide +kernel
theorem d_X5_product_142 : decode cX5_product 142 = .ok (.iaload, 1) := by decide +kernel
theorem d_X5_product_143 : decode cX5_product 143 = .ok (.iadd, 1) := by decide +kernel
theorem d_X5_product_144 : decode cX5_product 144 = .ok (.iload_n 2, 1) := by decide +kernel
theorem d_X5_product_145 : decode cX5_product 145 = .ok (.invokevirtual 166, 3) := by decide +kernel
theorem d_X5_product_148 : decode cX5_product 148 = .ok (.lreturn, 1) := by decide +kernel
theorem sg_X5_product_0 {L : Nat} {xs : Nat → Int32} {σ : ks_St} {mc ms : Nat} {P : ka_O → ks_St → Prop} {x1 : Int32} {x2 : Int32}  (k2 : (¬ (sf_ σ 25 (0 : Int32).toNatClampNeg) = 0) → ks_W L xs mX5_product rm_X5_product 34 [(0, .ref 17), (1, .int x1), (2, .int x2), (3, .int ((sf_ σ 26 (0 : Int32).toNatClampNeg) ^^^ (sf_ σ 26 (1 : Int32).toNatClampNeg)))] [] σ mc ms P) (k4 : ((sf_ σ 25 (0 : Int32).toNatClampNeg) = 0) → ((lg_cmp (sg_ σ 28 (0 : Int32).toNatClampNeg) 0) = 0) → ks_W L xs mX5_product rm_X5_product 54 [(0, .ref 17), (1, .int x1), (2, .int x2), (3, .int ((sf_ σ 26 (0 : Int32).toNatClampNeg) ^^^ (sf_ σ 26 (1 : Int32).toNatClampNeg)))] [] σ mc ms P) (k5 : ((sf_ σ 25 (0 : Int32).toNatClampNeg) = 0) → (¬ ((lg_cmp (sg_ σ 28 (0 : Int32).toNatClampNeg) 0) = 0)) → ks_W L xs mX5_product rm_X5_product 34 [(0, .ref 17), (1, .int x1), (2, .int x2), (3, .int ((sf_ σ 26 (0 : Int32).toNatClampNeg) ^^^ (sf_ σ 26 (1 : Int32).toNatClampNeg)))] [] σ mc ms P) : ks_W L xs mX5_product rm_X5_product 0 [(0, .ref 17), (1, .int x1), (2, .int x2)] [] σ mc ms P := by
  refine ka_aload_n d_X5_product_0 rfl rfl 0 rfl ?_
  refine gf_X5_12 d_X5_product_1 rfl fl_X5_36 ?_
  refine ka_iconst (v := 0) d_X5_product_4 rfl (by decide) ?_
  refine ks_iald row_26 d_X5_product_5 rfl (by unfold vp_in; decide) ?_
  refine ka_aload_n d_X5_product_6 rfl rfl 0 rfl ?_
  refine gf_X5_12 d_X5_product_7 rfl fl_X5_36 ?_
  refine ka_iconst (v := 1) d_X5_product_10 rfl (by decide) ?_
  refine ks_iald row_26 d_X5_product_11 rfl (by unfold vp_in; decide) ?_
  refine ka_ixor d_X5_product_12 rfl ?_
  refine ka_istore_n (ls' := [(3, .int ((sf_ σ 26 (0 : Int32).toNatClampNeg) ^^^ (sf_ σ 26 (1 : Int32).toNatClampNeg))), (0, .ref 17), (1, .int x1), (2, .int x2)]) d_X5_product_13 rfl rfl (by decide) rfl ?_
  refine ka_aload_n d_X5_product_14 rfl rfl 1 rfl ?_
  refine gf_X5_11 d_X5_product_15 rfl fl_X5_33 ?_
  refine ka_iconst (v := 0) d_X5_product_18 rfl (by decide) ?_
  refine ks_iald row_25 d_X5_product_19 rfl (by unfold vp_in; decide) ?_
  refine ka_if_ne (tgt := 34) d_X5_product_20 (by decide) rfl (fun c1 => ?_) (fun c1 => ?_)
  · refine ka_sub [1, 2, 3, 0] rfl ?_
    exact (k2 c1)
  · refine ka_aload_n d_X5_product_23 rfl rfl 1 rfl ?_
    refine gf_X5_14 d_X5_product_24 rfl fl_X5_42 ?_
    refine ka_iconst (v := 0) d_X5_product_27 rfl (by decide) ?_
    refine ks_lald row_28 d_X5_product_28 rfl (by unfold vp_in; decide) ?_
    refine ka_lconst (v := 0) d_X5_product_29 rfl (by decide) ?_
    refine ka_lcmp d_X5_product_30 rfl ?_
    refine ka_if_eq (tgt := 54) d_X5_product_31 (by decide) rfl (fun c3 => ?_) (fun c3 => ?_)
    · refine ka_sub [1, 2, 3, 0] rfl ?_
      exact (k4 c1 c3)
    · refine ka_sub [1, 2, 3, 0] rfl ?_
      exact (k5 c1 c3)
theorem sg_X5_product_34 {L : Nat} {xs : Nat → Int32} {σ : ks_St} {mc ms : Nat} {P : ka_O → ks_St → Prop} {x1 : Int32} {x2 : Int32} {x3 : Int32}  (k2 : (¬ (sf_ σ 25 (1 : Int32).toNatClampNeg) = 0) → ks_W L xs mX5_product rm_X5_product 58 [(0, .ref 17), (1, .int x1), (2, .int x2), (3, .int x3)] [] σ mc ms P) (k4 : ((sf_ σ 25 (1 : Int32).toNatClampNeg) = 0) → (¬ (lg_cmp (sg_ σ 28 (1 : Int32).toNatClampNeg) 0) = 0) → ks_W L xs mX5_product rm_X5_product 58 [(0, .ref 17), (1, .int x1), (2, .int x2), (3, .int x3)] [] σ mc ms P) (k5 : ((sf_ σ 25 (1 : Int32).toNatClampNeg) = 0) → ((lg_cmp (sg_ σ 28 (1 : Int32).toNatClampNeg) 0) = 0) → ks_W L xs mX5_product rm_X5_product 54 [(0, .ref 17), (1, .int x1), (2, .int x2), (3, .int x3)] [] σ mc ms P) : ks_W L xs mX5_product rm_X5_product 34 [(0, .ref 17), (1, .int x1), (2, .int x2), (3, .int x3)] [] σ mc ms P := by
  refine ka_aload_n d_X5_product_34 rfl rfl 0 rfl ?_
  refine gf_X5_11 d_X5_product_35 rfl fl_X5_33 ?_
  refine ka_iconst (v := 1) d_X5_product_38 rfl (by decide) ?_
  refine ks_iald row_25 d_X5_product_39 rfl (by unfold vp_in; decide) ?_
  refine ka_if_ne (tgt := 58) d_X5_product_40 (by decide) rfl (fun c1 => ?_) (fun c1 => ?_)
  · exact (k2 c1)
  · refine ka_aload_n d_X5_product_43 rfl rfl 0 rfl ?_
    refine gf_X5_14 d_X5_product_44 rfl fl_X5_42 ?_
    refine ka_iconst (v := 1) d_X5_product_47 rfl (by decide) ?_
    refine ks_lald row_28 d_X5_product_48 rfl (by unfold vp_in; decide) ?_
    refine ka_lconst (v := 0) d_X5_product_49 rfl (by decide) ?_
    refine ka_lcmp d_X5_product_50 rfl ?_
    refine ka_if_ne (tgt := 58) d_X5_product_51 (by decide) rfl (fun c3 => ?_) (fun c3 => ?_)
    · exact (k4 c1 c3)
    · exact (k5 c1 c3)
theorem sg_X5_product_54 {L : Nat} {xs : Nat → Int32} {σ : ks_St} {mc ms : Nat} {P : ka_O → ks_St → Prop} {x1 : Int32} {x2 : Int32} {x3 : Int32}  (k1 : ks_W L xs mX5_product rm_X5_product 59 [(0, .ref 17), (1, .int x1), (2, .int x2), (3, .int x3)] [.int 1] σ mc ms P) : ks_W L xs mX5_product rm_X5_product 54 [(0, .ref 17), (1, .int x1), (2, .int x2), (3, .int x3)] [] σ mc ms P := by
  refine ka_iconst (v := 1) d_X5_product_54 rfl (by decide) ?_
  refine ka_goto (q := 59) d_X5_product_55 (by decide) ?_
  exact k1
theorem sg_X5_product_58 {L : Nat} {xs : Nat → Int32} {σ : ks_St} {mc ms : Nat} {P : ka_O → ks_St → Prop} {x1 : Int32} {x2 : Int32} {x3 : Int32}  (k1 : ks_W L xs mX5_product rm_X5_product 59 [(0, .ref 17), (1, .int x1), (2, .int x2), (3, .int x3)] [.int 0] σ mc ms P) : ks_W L xs mX5_product rm_X5_product 58 [(0, .ref 17), (1, .int x1), (2, .int x2), (3, .int x3)] [] σ mc ms P := by
  refine ka_iconst (v := 0) d_X5_product_58 rfl (by decide) ?_
  exact k1
theorem sg_X5_product_59 {L : Nat} {xs : Nat → Int32} {σ : ks_St} {mc ms : Nat} {P : ka_O → ks_St → Prop} {x1 : Int32} {x2 : Int32} {x3 : Int32} {s0 : Int32}  (k2 : ((sf_ σ 25 (0 : Int32).toNatClampNeg) = 1) → ks_W L xs mX5_product rm_X5_product 81 [(0, .ref 17), (1, .int x1), (3, .int x3), (4, .int s0)] [] σ mc ms P) (k5 : (¬ ((sf_ σ 25 (0 : Int32).toNatClampNeg) = 1)) → (¬ (sf_ σ 25 (1 : Int32).toNatClampNeg) = 1) → (s0 = 0) → ks_W L xs mX5_product rm_X5_product 145 [] [.int x2, .int ((sf_ σ 27 (0 : Int32).toNatClampNeg) + (sf_ σ 27 (1 : Int32).toNatClampNeg)), .long ((sg_ σ 28 (0 : Int32).toNatClampNeg) * (sg_ σ 28 (1 : Int32).toNatClampNeg)), .int x3, .int x1, .ref 17] σ mc ms P) (k6 : (¬ ((sf_ σ 25 (0 : Int32).toNatClampNeg) = 1)) → (¬ (sf_ σ 25 (1 : Int32).toNatClampNeg) = 1) → (¬ (s0 = 0)) → ks_W L xs mX5_product rm_X5_product 109 [] [.long 0, .int 0, .int x3, .int x1] σ mc ms P) (k7 : (¬ ((sf_ σ 25 (0 : Int32).toNatClampNeg) = 1)) → ((sf_ σ 25 (1 : Int32).toNatClampNeg) = 1) → ks_W L xs mX5_product rm_X5_product 81 [(0, .ref 17), (1, .int x1), (3, .int x3), (4, .int s0)] [] σ mc ms P) : ks_W L xs mX5_product rm_X5_product 59 [(0, .ref 17), (1, .int x1), (2, .int x2), (3, .int x3)] [.int s0] σ mc ms P := by
  refine ka_istore (ls' := [(4, .int s0), (0, .ref 17), (1, .int x1), (2, .int x2), (3, .int x3)]) d_X5_product_59 rfl (by decide) rfl ?_
  refine ka_aload_n d_X5_product_61 rfl rfl 1 rfl ?_
  refine gf_X5_11 d_X5_product_62 rfl fl_X5_33 ?_
  refine ka_iconst (v := 0) d_X5_product_65 rfl (by decide) ?_
  refine ks_iald row_25 d_X5_product_66 rfl (by unfold vp_in; decide) ?_
  refine ka_iconst (v := 1) d_X5_product_67 rfl (by decide) ?_
  refine ka_icmp_eq (tgt := 81) d_X5_product_68 (by decide) rfl (fun c1 => ?_) (fun c1 => ?_)
  · refine ka_sub [1, 2, 4, 0] rfl ?_
    exact (k2 c1)
  · refine ka_aload_n d_X5_product_71 rfl rfl 1 rfl ?_
    refine gf_X5_11 d_X5_product_72 rfl fl_X5_33 ?_
    refine ka_iconst (v := 1) d_X5_product_75 rfl (by decide) ?_
    refine ks_iald row_25 d_X5_product_76 rfl (by unfold vp_in; decide) ?_
    refine ka_iconst (v := 1) d_X5_product_77 rfl (by decide) ?_
    refine ka_icmp_ne (tgt := 100) d_X5_product_78 (by decide) rfl (fun c3 => ?_) (fun c3 => ?_)
    · refine ka_iload d_X5_product_100 rfl 0 rfl ?_
      refine ka_if_eq (tgt := 115) d_X5_product_102 (by decide) rfl (fun c4 => ?_) (fun c4 => ?_)
      · refine ka_aload_n d_X5_product_115 rfl rfl 1 rfl ?_
        refine ka_iload_n d_X5_product_116 rfl rfl 2 rfl ?_
        refine ka_iload_n d_X5_product_117 rfl rfl 4 rfl ?_
        refine ka_aload_n d_X5_product_118 rfl rfl 1 rfl ?_
        refine gf_X5_14 d_X5_product_119 rfl fl_X5_42 ?_
        refine ka_iconst (v := 0) d_X5_product_122 rfl (by decide) ?_
        refine ks_lald row_28 d_X5_product_123 rfl (by unfold vp_in; decide) ?_
        refine ka_aload_n d_X5_product_124 rfl rfl 1 rfl ?_
        refine gf_X5_14 d_X5_product_125 rfl fl_X5_42 ?_
        refine ka_iconst (v := 1) d_X5_product_128 rfl (by decide) ?_
        refine ks_lald row_28 d_X5_product_129 rfl (by unfold vp_in; decide) ?_
        refine ka_lmul d_X5_product_130 rfl ?_
        refine ka_aload_n d_X5_product_131 rfl rfl 1 rfl ?_
        refine gf_X5_13 d_X5_product_132 rfl fl_X5_39 ?_
        refine ka_iconst (v := 0) d_X5_product_135 rfl (by decide) ?_
        refine ks_iald row_27 d_X5_product_136 rfl (by unfold vp_in; decide) ?_
        refine ka_aload_n d_X5_product_137 rfl rfl 1 rfl ?_
        refine gf_X5_13 d_X5_product_138 rfl fl_X5_39 ?_
        refine ka_iconst (v := 1) d_X5_product_141 rfl (by decide) ?_
        refine ks_iald row_27 d_X5_product_142 rfl (by unfold vp_in; decide) ?_
        refine ka_iadd d_X5_product_143 rfl ?_
        refine ka_iload_n d_X5_product_144 rfl rfl 3 rfl ?_
        refine ka_sub [] rfl ?_
        exact (k5 c1 c3 c4)
      · refine ka_iload_n d_X5_product_105 rfl rfl 2 rfl ?_
        refine ka_iload_n d_X5_product_106 rfl rfl 4 rfl ?_
        refine ka_iconst (v := 0) d_X5_product_107 rfl (by decide) ?_
        refine ka_lconst (v := 0) d_X5_product_108 rfl (by decide) ?_
        refine ka_sub [] rfl ?_
        exact (k6 c1 c3 c4)
    · refine ka_sub [1, 2, 4, 0] rfl ?_
      exact (k7 c1 c3)
theorem sg_X5_product_81 {L : Nat} {xs : Nat → Int32} {σ : ks_St} {mc ms : Nat} {P : ka_O → ks_St → Prop} {x1 : Int32} {x3 : Int32} {x4 : Int32}  (k2 : (x4 = 0) → ks_W L xs mX5_product rm_X5_product 96 [] [.int x3, .int x1] σ mc ms P) (k3 : (¬ (x4 = 0)) → ks_W L xs mX5_product rm_X5_product 88 [] [.int x1, .ref 17] σ mc ms P) : ks_W L xs mX5_product rm_X5_product 81 [(0, .ref 17), (1, .int x1), (3, .int x3), (4, .int x4)] [] σ mc ms P := by
  refine ka_iload d_X5_product_81 rfl 3 rfl ?_
  refine ka_if_eq (tgt := 94) d_X5_product_83 (by decide) rfl (fun c1 => ?_) (fun c1 => ?_)
  · refine ka_iload_n d_X5_product_94 rfl rfl 1 rfl ?_
    refine ka_iload_n d_X5_product_95 rfl rfl 2 rfl ?_
    refine ka_sub [] rfl ?_
    exact (k2 c1)
  · refine ka_aload_n d_X5_product_86 rfl rfl 0 rfl ?_
    refine ka_iload_n d_X5_product_87 rfl rfl 1 rfl ?_
    refine ka_sub [] rfl ?_
    exact (k3 c1)
theorem cs_X5_product_88 {L : Nat} {xs : Nat → Int32} {σ : ks_St} {mc ms : Nat} {P : ka_O → ks_St → Prop} {f : Int64 → ks_St → Prop} {s1 : Int32} (hK : ks_M L xs mX5_notValid rm_X5_notValid [.ref 17, .int s1] σ (pl_ f)) (kr : ∀ r σ', f r σ' → ks_W L xs mX5_product rm_X5_product 91 [] [.long r] σ' mc ms P) : ks_W L xs mX5_product rm_X5_product 88 [] [.int s1, .ref 17] σ mc ms P := by
  refine ks_callV (q := 91) (o := 17) (ci := 5) (As := [.int s1]) (st := []) d_X5_product_88 rfl rfl (by decide) rfl rfl lk_X5_163 ⟨by decide, by decide⟩ (Nat.le_of_ble_eq_true rfl) ⟨Nat.le_refl _, Nat.le_refl _⟩ hK (fun v σ' hq => ?_) (fun E σ' hq => ?_)
  · obtain ⟨r, e, hf⟩ := hq; cases e; exact kr r σ' hf
  · obtain ⟨r, e, hf⟩ := hq; cases e
theorem sg_X5_product_91 {L : Nat} {xs : Nat → Int32} {σ : ks_St} {mc ms : Nat} {P : ka_O → ks_St → Prop} {s0 : Int64}  (k1 : ks_W L xs mX5_product rm_X5_product 99 [] [.long s0] σ mc ms P) : ks_W L xs mX5_product rm_X5_product 91 [] [.long s0] σ mc ms P := by
  refine ka_goto (q := 99) d_X5_product_91 (by decide) ?_
  exact k1
theorem cs_X5_product_96 {L : Nat} {xs : Nat → Int32} {σ : ks_St} {mc ms : Nat} {P : ka_O → ks_St → Prop} {f : Int64 → ks_St → Prop} {s0 : Int32} {s1 : Int32} (hK : ks_M L xs mX5_infinite rm_X5_infinite [.int s0, .int s1] σ (pl_ f)) (kr : ∀ r σ', f r σ' → ks_W L xs mX5_product rm_X5_product 99 [] [.long r] σ' mc ms P) : ks_W L xs mX5_product rm_X5_product 96 [] [.int s1, .int s0] σ mc ms P := by
  refine ks_callS (q := 99) (As := [.int s0, .int s1]) (st := []) d_X5_product_96 rfl rfl lk_X5_159 ⟨by decide, by decide⟩ (Nat.le_of_ble_eq_true rfl) ⟨Nat.le_refl _, Nat.le_refl _⟩ hK (fun v σ' hq => ?_) (fun E σ' hq => ?_)
  · obtain ⟨r, e, hf⟩ := hq; cases e; exact kr r σ' hf
  · obtain ⟨r, e, hf⟩ := hq; cases e
theorem sg_X5_product_99 {L : Nat} {xs : Nat → Int32} {σ : ks_St} {mc ms : Nat} {P : ka_O → ks_St → Prop} {s0 : Int64}  (r1 : P (.inl (some (.long s0))) σ) : ks_W L xs mX5_product rm_X5_product 99 [] [.long s0] σ mc ms P := by
  exact ks_lret d_X5_product_99 rfl r1
theorem cs_X5_product_109 {L : Nat} {xs : Nat → Int32} {σ : ks_St} {mc ms : Nat} {P : ka_O → ks_St → Prop} {f : Int64 → ks_St → Prop} {s0 : Int32} {s1 : Int32} {s2 : Int32} {s3 : Int64} (hK : ks_M L xs mX5_packed rm_X5_packed [.int s0, .int s1, .int s2, .long s3] σ (pl_ f)) (kr : ∀ r σ', f r σ' → ks_W L xs mX5_product rm_X5_product 112 [] [.long r] σ' mc ms P) : ks_W L xs mX5_product rm_X5_product 109 [] [.long s3, .int s2, .int s1, .int s0] σ mc ms P := by
  refine ks_callS (q := 112) (As := [.int s0, .int s1, .int s2, .long s3]) (st := []) d_X5_product_109 rfl rfl lk_X5_138 ⟨by decide, by decide⟩ (Nat.le_of_ble_eq_true rfl) ⟨Nat.le_refl _, Nat.le_refl _⟩ hK (fun v σ' hq => ?_) (fun E σ' hq => ?_)
  · obtain ⟨r, e, hf⟩ := hq; cases e; exact kr r σ' hf
  · obtain ⟨r, e, hf⟩ := hq; cases e
theorem sg_X5_product_112 {L : Nat} {xs : Nat → Int32} {σ : ks_St} {mc ms : Nat} {P : ka_O → ks_St → Prop} {s0 : Int64}  (k1 : ks_W L xs mX5_product rm_X5_product 148 [] [.long s0] σ mc ms P) : ks_W L xs mX5_product rm_X5_product 112 [] [.long s0] σ mc ms P := by
  refine ka_goto (q := 148) d_X5_product_112 (by decide) ?_
  exact k1
theorem cs_X5_product_145 {L : Nat} {xs : Nat → Int32} {σ : ks_St} {mc ms : Nat} {P : ka_O → ks_St → Prop} {f : Int64 → ks_St → Prop} {s1 : Int32} {s2 : Int32} {s3 : Int64} {s4 : Int32} {s5 : Int32} (hK : ks_M L xs mX5_rounded rm_X5_rounded [.ref 17, .int s1, .int s2, .long s3, .int s4, .int s5] σ (pl_ f)) (kr : ∀ r σ', f r σ' → ks_W L xs mX5_product rm_X5_product 148 [] [.long r] σ' mc ms P) : ks_W L xs mX5_product rm_X5_product 145 [] [.int s5, .int s4, .long s3, .int s2, .int s1, .ref 17] σ mc ms P := by
  refine ks_callV (q := 148) (o := 17) (ci := 5) (As := [.int s1, .int s2, .long s3, .int s4, .int s5]) (st := []) d_X5_product_145 rfl rfl (by decide) rfl rfl lk_X5_166 ⟨by decide, by decide⟩ (Nat.le_of_ble_eq_true rfl) ⟨Nat.le_refl _, Nat.le_refl _⟩ hK (fun v σ' hq => ?_) (fun E σ' hq => ?_)
  · obtain ⟨r, e, hf⟩ := hq; cases e; exact kr r σ' hf
  · obtain ⟨r, e, hf⟩ := hq; cases e
theorem sg_X5_product_148 {L : Nat} {xs : Nat → Int32} {σ : ks_St} {mc ms : Nat} {P : ka_O → ks_St → Prop} {s0 : Int64}  (r1 : P (.inl (some (.long s0))) σ) : ks_W L xs mX5_product rm_X5_product 148 [] [.long s0] σ mc ms P := by
  exact ks_lret d_X5_product_148 rfl r1
theorem d_X5_quotient_0 : decode cX5_quotient 0 = .ok (.aload_n 0, 1) := by decide +kernel
theorem d_X5_quotient_1 : decode cX5_quotient 1 = .ok (.getfield 36, 3) := by decide +kernel
theorem d_X5_quotient_4 : decode cX5_quotient 4 = .ok (.iconst 0, 1) := by decide +kernel
theorem d_X5_quotient_5 : decode cX5_quotient 5 = .ok (.iaload, 1) := by decide +kernel
theorem d_X5_quotient_6 : decode cX5_quotient 6 = .ok (.aload_n 0, 1) := by decide +kernel
theorem d_X5_quotient_7 : decode cX5_quotient 7 = .ok (.getfield 36, 3) := by decide +kernel
theorem d_X5_quotient_10 : decode cX5_quotient 10 = .ok (.iconst 1, 1) := by decide +kernel
theorem d_X5_quotient_11 : decode cX5_quotient 11 = .ok (.iaload, 1) := by decide +kernel
theorem d_X5_quotient_12 : decode cX5_quotient 12 = .ok (.ixor, 1) := by decide +kernel
theorem d_X5_quotient_13 : decode cX5_quotient 13 = .ok (.istore_n 3, 1) := by decide +kernel
theorem d_X5_quotient_14 : decode cX5_quotient 14 = .ok (.aload_n 0, 1) := by decide +kernel
theorem d_X5_quotient_15 : decode cX5_quotient 15 = .ok (.getfield 33, 3) := by decide +kernel
theorem d_X5_quotient_18 : decode cX5_quotient 18 = .ok (.iconst 0, 1) := by decide +kernel
theorem d_X5_quotient_19 : decode cX5_quotient 19 = .ok (.iaload, 1) := by decide +kernel
theorem d_X5_quotient_20 : decode cX5_quotient 20 = .ok (.ifCond .ne 18, 3) := by decide +kernel
theorem d_X5_quotient_23 : decode cX5_quotient 23 = .ok (.aload_n 0, 1) := by decide +kernel
theorem d_X5_quotient_24 : decode cX5_quotient 24 = .ok (.getfield 42, 3) := by decide +kernel
theorem d_X5_quotient_27 : decode cX5_quotient 27 = .ok (.iconst 0, 1) := by decide +kernel
theorem d_X5_quotient_28 : decode cX5_quotient 28 = .ok (.laload, 1) := by decide +kernel
theorem d_X5_quotient_29 : decode cX5_quotient 29 = .ok (.lconst 0, 1) := by decide +kernel
theorem d_X5_quotient_30 : decode cX5_quotient 30 = .ok (.lcmp, 1) := by decide +kernel
theorem d_X5_quotient_31 : decode cX5_quotient 31 = .ok (.ifCond .ne 7, 3) := by decide +kernel
theorem d_X5_quotient_34 : decode cX5_quotient 34 = .ok (.iconst 1, 1) := by decide +kernel
theorem d_X5_quotient_35 : decode cX5_quotient 35 = .ok (.goto 4, 3) := by decide +kernel
theorem d_X5_quotient_38 : decode cX5_quotient 38 = .ok (.iconst 0, 1) := by decide +kernel
theorem d_X5_quotient_39 : decode cX5_quotient 39 = .ok (.istore 4, 2) := by decide +kernel
theorem d_X5_quotient_41 : decode cX5_quotient 41 = .ok (.aload_n 0, 1) := by decide +kernel
theorem d_X5_quotient_42 : decode cX5_quotient 42 = .ok (.getfield 33, 3) := by decide +kernel
theorem d_X5_quotient_45 : decode cX5_quotient 45 = .ok (.iconst 1, 1) := by decide +kernel
theorem d_X5_quotient_46 : decode cX5_quotient 46 = .ok (.iaload, 1) := by decide +kernel
theorem d_X5_quotient_47 : decode cX5_quotient 47 = .ok (.ifCond .ne 18, 3) := by decide +kernel
theorem d_X5_quotient_50 : decode cX5_quotient 50 = .ok (.aload_n 0, 1) := by decide +kernel
theorem d_X5_quotient_51 : decode cX5_quotient 51 = .ok (.getfield 42, 3) := by decide +kernel
theorem d_X5_quotient_54 : decode cX5_quotient 54 = .ok (.iconst 1, 1) := by decide +kernel
theorem d_X5_quotient_55 : decode cX5_quotient 55 = .ok (.laload, 1) := by decide +kernel
theorem d_X5_quotient_56 : decode cX5_quotient 56 = .ok (.lconst 0, 1) := by decide +kernel
theorem d_X5_quotient_57 : decode cX5_quotient 57 = .ok (.lcmp, 1) := by decide +kernel
theorem d_X5_quotient_58 : decode cX5_quotient 58 = .ok (.ifCond .ne 7, 3) := by decide +kernel
theorem d_X5_quotient_61 : decode cX5_quotient 61 = .ok (.iconst 1, 1) := by decide +kernel
theorem d_X5_quotient_62 : decode cX5_quotient 62 = .ok (.goto 4, 3) := by decide +kernel
theorem d_X5_quotient_65 : decode cX5_quotient 65 = .ok (.iconst 0, 1) := by decide +kernel
theorem d_X5_quotient_66 : decode cX5_quotient 66 = .ok (.istore 5, 2) := by decide +kernel
theorem d_X5_quotient_68 : decode cX5_quotient 68 = .ok (.iload 4, 2) := by decide +kernel
theorem d_X5_quotient_70 : decode cX5_quotient 70 = .ok (.ifCond .eq 8, 3) := by decide +kernel
theorem d_X5_quotient_73 : decode cX5_quotient 73 = .ok (.iload 5, 2) := by decide +kernel
theorem d_X5_quotient_75 : decode cX5_quotient 75 = .ok (.ifCond .ne 23, 3) := by decide +kernel
theorem d_X5_quotient_78 : decode cX5_quotient 78 = .ok (.aload_n 0, 1) := by decide +kernel
theorem d_X5_quotient_79 : decode cX5_quotient 79 = .ok (.getfield 33, 3) := by decide +kernel
theorem d_X5_quotient_82 : decode cX5_quotient 82 = .ok (.iconst 0, 1) := by decide +kernel
theorem d_X5_quotient_83 : decode cX5_quotient 83 = .ok (.iaload, 1) := by decide +kernel
theorem d_X5_quotient_84 : decode cX5_quotient 84 = .ok (.iconst 1, 1) := by decide +kernel
theorem d_X5_quotient_85 : decode cX5_quotient 85 = .ok (.if_icmp .ne 19, 3) := by decide +kernel
theorem d_X5_quotient_88 : decode cX5_quotient 88 = .ok (.aload_n 0, 1) := by decide +kernel
theorem d_X5_quotient_89 : decode cX5_quotient 89 = .ok (.getfield 33, 3) := by decide +kernel
theorem d_X5_quotient_92 : decode cX5_quotient 92 = .ok (.iconst 1, 1) := by decide +kernel
theorem d_X5_quotient_93 : decode cX5_quotient 93 = .ok (.iaload, 1) := by decide +kernel
theorem d_X5_quotient_94 : decode cX5_quotient 94 = .ok (.iconst 1, 1) := by decide +kernel
theorem d_X5_quotient_95 : decode cX5_quotient 95 = .ok (.if_icmp .ne 9, 3) := by decide +kernel
theorem d_X5_quotient_98 : decode cX5_quotient 98 = .ok (.aload_n 0, 1) := by decide +kernel
theorem d_X5_quotient_99 : decode cX5_quotient 99 = .ok (.iload_n 1, 1) := by decide +kernel
theorem d_X5_quotient_100 : decode cX5_quotient 100 = .ok (.invokevirtual 163, 3) := by decide +kernel
theorem d_X5_quotient_103 : decode cX5_quotient 103 = .ok (.lreturn, 1) := by decide +kernel
theorem d_X5_quotient_104 : decode cX5_quotient 104 = .ok (.aload_n 0, 1) := by decide +kernel
theorem d_X5_quotient_105 : decode cX5_quotient 105 = .ok (.getfield 33, 3) := by decide +kernel
theorem d_X5_quotient_108 : decode cX5_quotient 108 = .ok (.iconst 0, 1) := by decide +kernel
theorem d_X5_quotient_109 : decode cX5_quotient 109 = .ok (.iaload, 1) := by decide +kernel
theorem d_X5_quotient_110 : decode cX5_quotient 110 = .ok (.iconst 1, 1) := by decide +kernel
theorem d_X5_quotient_111 : decode cX5_quotient 111 = .ok (.if_icmp .ne 9, 3) := by decide +kernel
theorem d_X5_quotient_114 : decode cX5_quotient 114 = .ok (.iload_n 1, 1) := by decide +kernel
theorem d_X5_quotient_115 : decode cX5_quotient 115 = .ok (.iload_n 3, 1) := by decide +kernel
theorem d_X5_quotient_116 : decode cX5_quotient 116 = .ok (.invokestatic 159, 3) := by decide +kernel
theorem d_X5_quotient_119 : decode cX5_quotient 119 = .ok (.lreturn, 1) := by decide +kernel
theorem d_X5_quotient_120 : decode cX5_quotient 120 = .ok (.iload 4, 2) := by decide +kernel
theorem d_X5_quotient_122 : decode cX5_quotient 122 = .ok (.ifCond .ne 13, 3) := by decide +kernel
theorem d_X5_quotient_125 : decode cX5_quotient 125 = .ok (.aload_n 0, 1) := by decide +kernel
theorem d_X5_quotient_126 : decode cX5_quotient 126 = .ok (.getfield 33, 3) := by decide +kernel
theorem d_X5_quotient_129 : decode cX5_quotient 129 = .ok (.iconst 1, 1) := by decide +kernel
theorem d_X5_quotient_130 : decode cX5_quotient 130 = .ok (.iaload, 1) := by decide +kernel
theorem d_X5_quotient_131 : decode cX5_quotient 131 = .ok (.iconst 1, 1) := by decide +kernel
theorem d_X5_quotient_132 : decode cX5_quotient 132 = .ok (.if_icmp .ne 11, 3) := by decide +kernel
theorem d_X5_quotient_135 : decode cX5_quotient 135 = .ok (.iload_n 1, 1) := by decide +kernel
theorem d_X5_quotient_136 : decode cX5_quotient 136 = .ok (.iload_n 3, 1) := by decide +kernel
theorem d_X5_quotient_137 : decode cX5_quotient 137 = .ok (.iconst 0, 1) := by decide +kernel
theorem d_X5_quotient_138 : decode cX5_quotient 138 = .ok (.lconst 0, 1) := by decide +kernel
theorem d_X5_quotient_139 : decode cX5_quotient 139 = .ok (.invokestatic 138, 3) := by decide +kernel
theorem d_X5_quotient_142 : decode cX5_quotient 142 = .ok (.lreturn, 1) := by decide +kernel
theorem d_X5_quotient_143 : decode cX5_quotient 143 = .ok (.iload 5, 2) := by decide +kernel
theorem d_X5_quotient_145 : decode cX5_quotient 145 = .ok (.ifCond .eq 14, 3) := by decide +kernel
theorem d_X5_quotient_148 : decode cX5_quotient 148 = .ok (.aload_n 0, 1) := by decide +kernel
theorem d_X5_quotient_149 : decode cX5_quotient 149 = .ok (.iconst 2, 1) := by decide +kernel
theorem d_X5_quotient_150 : decode cX5_quotient 150 = .ok (.putfield 142, 3) := by decide +kernel
theorem d_X5_quotient_153 : decode cX5_quotient 153 = .ok (.iload_n 1, 1) := by decide +kernel
theorem d_X5_quotient_154 : decode cX5_quotient 154 = .ok (.iload_n 3, 1) := by decide +kernel
theorem d_X5_quotient_155 : decode cX5_quotient 155 = .ok (.invokestatic 159, 3) := by decide +kernel
theorem d_X5_quotient_158 : decode cX5_quotient 158 = .ok (.lreturn, 1) := by decide +kernel
theorem d_X5_quotient_159 : decode cX5_quotient 159 = .ok (.bipush 61, 2) := by decide +kernel
theorem d_X5_quotient_161 : decode cX5_quotient 161 = .ok (.aload_n 0, 1) := by decide +kernel
theorem d_X5_quotient_162 : decode cX5_quotient 162 = .ok (.getfield 42, 3) := by decide +kernel
theorem d_X5_quotient_165 : decode cX5_quotient 165 = .ok (.iconst 0, 1) := by decide +kernel
theorem d_X5_quotient_166 : decode cX5_quotient 166 = .ok (.laload, 1) := by decide +kernel
theorem d_X5_quotient_167 : decode cX5_quotient 167 = .ok (.invokestatic 149, 3) := by decide +kernel
theorem d_X5_quotient_170 : decode cX5_quotient 170 = .ok (.isub, 1) := by decide +kernel
theorem d_X5_quotient_171 : decode cX5_quotient 171 = .ok (.istore 6, 2) := by decide +kernel
theorem d_X5_quotient_173 : decode cX5_quotient 173 = .ok (.aload_n 0, 1) := by decide +kernel
theorem d_X5_quotient_174 : decode cX5_quotient 174 = .ok (.getfield 42, 3) := by decide +kernel
theorem d_X5_quotient_177 : decode cX5_quotient 177 = .ok (.iconst 0, 1) := by decide +kernel
theorem d_X5_quotient_178 : decode cX5_quotient 178 = .ok (.laload, 1) := by decide +kernel
theorem d_X5_quotient_179 : decode cX5_quotient 179 = .ok (.iload 6, 2) := by decide +kernel
theorem d_X5_quotient_181 : decode cX5_quotient 181 = .ok (.lshl, 1) := by decide +kernel
theorem d_X5_quotient_182 : decode cX5_quotient 182 = .ok (.aload_n 0, 1) := by decide +kernel
theorem d_X5_quotient_183 : decode cX5_quotient 183 = .ok (.getfield 42, 3) := by decide +kernel
theorem d_X5_quotient_186 : decode cX5_quotient 186 = .ok (.iconst 1, 1) := by decide +kernel
theorem d_X5_quotient_187 : decode cX5_quotient 187 = .ok (.laload, 1) := by decide +kernel
theorem d_X5_quotient_188 : decode cX5_quotient 188 = .ok (.ldiv, 1) := by decide +kernel
theorem d_X5_quotient_189 : decode cX5_quotient 189 = .ok (.lstore 7, 2) := by decide +kernel
theorem d_X5_quotient_191 : decode cX5_quotient 191 = .ok (.lload 7, 2) := by decide +kernel
theorem d_X5_quotient_193 : decode cX5_quotient 193 = .ok (.aload_n 0, 1) := by decide +kernel
theorem d_X5_quotient_194 : decode cX5_quotient 194 = .ok (.getfield 42, 3) := by decide +kernel
theorem d_X5_quotient_197 : decode cX5_quotient 197 = .ok (.iconst 1, 1) := by decide +kernel
theorem d_X5_quotient_198 : decode cX5_quotient 198 = .ok (.laload, 1) := by decide +kernel
theorem d_X5_quotient_199 : decode cX5_quotient 199 = .ok (.lmul, 1) := by decide +kernel
theorem d_X5_quotient_200 : decode cX5_quotient 200 = .ok (.aload_n 0, 1) := by decide +kernel
theorem d_X5_quotient_201 : decode cX5_quotient 201 = .ok (.getfield 42, 3) := by decide +kernel
theorem d_X5_quotient_204 : decode cX5_quotient 204 = .ok (.iconst 0, 1) := by decide +kernel
theorem d_X5_quotient_205 : decode cX5_quotient 205 = .ok (.laload, 1) := by decide +kernel
theorem d_X5_quotient_206 : decode cX5_quotient 206 = .ok (.iload 6, 2) := by decide +kernel
theorem d_X5_quotient_208 : decode cX5_quotient 208 = .ok (.lshl, 1) := by decide +kernel
theorem d_X5_quotient_209 : decode cX5_quotient 209 = .ok (.lcmp, 1) := by decide +kernel
theorem d_X5_quotient_210 : decode cX5_quotient 210 = .ok (.ifCond .eq 7, 3) := by decide +kernel
theorem d_X5_quotient_213 : decode cX5_quotient 213 = .ok (.iconst 1, 1) := by decide +kernel
theorem d_X5_quotient_214 : decode cX5_quotient 214 = .ok (.goto 4, 3) := by decide +kernel
theorem d_X5_quotient_217 : decode cX5_quotient 217 = .ok (.iconst 0, 1) := by decide +kernel
theorem d_X5_quotient_218 : decode cX5_quotient 218 = .ok (.istore 9, 2) := by decide +kernel
theorem d_X5_quotient_220 : decode cX5_quotient 220 = .ok (.aload_n 0, 1) := by decide +kernel
theorem d_X5_quotient_221 : decode cX5_quotient 221 = .ok (.iload_n 1, 1) := by decide +kernel
theorem d_X5_quotient_222 : decode cX5_quotient 222 = .ok (.iload_n 3, 1) := by decide +kernel
theorem d_X5_quotient_223 : decode cX5_quotient 223 = .ok (.lload 7, 2) := by decide +kernel
theorem d_X5_quotient_225 : decode cX5_quotient 225 = .ok (.iconst 2, 1) := by decide +kernel
theorem d_X5_quotient_226 : decode cX5_quotient 226 = .ok (.lshr, 1) := by decide +kernel
theorem d_X5_quotient_227 : decode cX5_quotient 227 = .ok (.iconst 1, 1) := by decide +kernel
theorem d_X5_quotient_228 : decode cX5_quotient 228 = .ok (.lshl, 1) := by decide +kernel
theorem d_X5_quotient_229 : decode cX5_quotient 229 = .ok (.lload 7, 2) := by decide +kernel
theorem d_X5_quotient_231 : decode cX5_quotient 231 = .ok (.ldc2_w 170, 3) := by decide +kernel
theorem d_X5_quotient_234 : decode cX5_quotient 234 = .ok (.land, 1) := by decide +kernel
theorem d_X5_quotient_235 : decode cX5_quotient 235 = .ok (.lconst 0, 1) := by decide +kernel
theorem d_X5_quotient_236 : decode cX5_quotient 236 = .ok (.lcmp, 1) := by decide +kernel
theorem d_X5_quotient_237 : decode cX5_quotient 237 = .ok (.ifCond .ne 8, 3) := by decide +kernel
theorem d_X5_quotient_240 : decode cX5_quotient 240 = .ok (.iload 9, 2) := by decide +kernel
theorem d_X5_quotient_242 : decode cX5_quotient 242 = .ok (.ifCond .eq 7, 3) := by decide +kernel
theorem d_X5_quotient_245 : decode cX5_quotient 245 = .ok (.lconst 1, 1) := by decide +kernel
theorem d_X5_quotient_246 : decode cX5_quotient 246 = .ok (.goto 4, 3) := by decide +kernel
theorem d_X5_quotient_249 : decode cX5_quotient 249 = .ok (.lconst 0, 1) := by decide +kernel
theorem d_X5_quotient_250 : decode cX5_quotient 250 = .ok (.lor, 1) := by decide +kernel
theorem d_X5_quotient_251 : decode cX5_quotient 251 = .ok (.aload_n 0, 1) := by decide +kernel
theorem d_X5_quotient_252 : decode cX5_quotient 252 = .ok (.getfield 39, 3) := by decide +kernel
theorem d_X5_quotient_255 : decode cX5_quotient 255 = .ok (.iconst 0, 1) := by decide +kernel
theorem d_X5_quotient_256 : decode cX5_quotient 256 = .ok (.iaload, 1) := by decide +kernel
theorem d_X5_quotient_257 : decode cX5_quotient 257 = .ok (.aload_n 0, 1) := by decide +kernel
theorem d_X5_quotient_258 : decode cX5_quotient 258 = .ok (.getfield 39, 3) := by decide +kernel
theorem d_X5_quotient_261 : decode cX5_quotient 261 = .ok (.iconst 1, 1) := by decide +kernel
theorem d_X5_quotient_262 : decode cX5_quotient 262 = .ok (.iaload, 1) := by decide +kernel
theorem d_X5_quotient_263 : decode cX5_quotient 263 = .ok (.isub, 1) := by decide +kernel
theorem d_X5_quotient_264 : decode cX5_quotient 264 = .ok (.iload 6, 2) := by decide +kernel
theorem d_X5_quotient_266 : decode cX5_quotient 266 = .ok (.isub, 1) := by decide +kernel
theorem d_X5_quotient_267 : decode cX5_quotient 267 = .ok (.iconst 1, 1) := by decide +kernel
theorem d_X5_quotient_268 : decode cX5_quotient 268 = .ok (.iadd, 1) := by decide +kernel
theorem d_X5_quotient_269 : decode cX5_quotient 269 = .ok (.iload_n 2, 1) := by decide +kernel
theorem d_X5_quotient_270 : decode cX5_quotient 270 = .ok (.invokevirtual 166, 3) := by decide +kernel
theorem d_X5_quotient_273 : decode cX5_quotient 273 = .ok (.lreturn, 1) := by decide +kernel
theorem sg_X5_quotient_0 {L : Nat} {xs : Nat → Int32} {σ : ks_St} {mc ms : Nat} {P : ka_O → ks_St → Prop} {x1 : Int32} {x2 : Int32}  (k2 : (¬ (sf_ σ 25 (0 : Int32).toNatClampNeg) = 0) → ks_W L xs mX5_quotient rm_X5_quotient 38 [(0, .ref 17), (1, .int x1), (2, .int x2), (3, .int ((sf_ σ 26 (0 : Int32).toNatClampNeg) ^^^ (sf_ σ 26 (1 : Int32).toNatClampNeg)))] [] σ mc ms P) (k4 : ((sf_ σ 25 (0 : Int32).toNatClampNeg) = 0) → (¬ (lg_cmp (sg_ σ 28 (0 : Int32).toNatClampNeg) 0) = 0) → ks_W L xs mX5_quotient rm_X5_quotient 38 [(0, .ref 17), (1, .int x1), (2, .int x2), (3, .int ((sf_ σ 26 (0 : Int32).toNatClampNeg) ^^^ (sf_ σ 26 (1 : Int32).toNatClampNeg)))] [] σ mc ms P) (k5 : ((sf_ σ 25 (0 : Int32).toNatClampNeg) = 0) → ((lg_cmp (sg_ σ 28 (0 : Int32).toNatClampNeg) 0) = 0) → ks_W L xs mX5_quotient rm_X5_quotient 39 [(0, .ref 17), (1, .int x1), (2, .int x2), (3, .int ((sf_ σ 26 (0 : Int32).toNatClampNeg) ^^^ (sf_ σ 26 (1 : Int32).toNatClampNeg)))] [.int 1] σ mc ms P) : ks_W L xs mX5_quotient rm_X5_quotient 0 [(0, .ref 17), (1, .int x1), (2, .int x2)] [] σ mc ms P := by
  refine ka_aload_n d_X5_quotient_0 rfl rfl 0 rfl ?_
  refine gf_X5_12 d_X5_quotient_1 rfl fl_X5_36 ?_
  refine ka_iconst (v := 0) d_X5_quotient_4 rfl (by decide) ?_
  refine ks_iald row_26 d_X5_quotient_5 rfl (by unfold vp_in; decide) ?_
  refine ka_aload_n d_X5_quotient_6 rfl rfl 0 rfl ?_
  refine gf_X5_12 d_X5_quotient_7 rfl fl_X5_36 ?_
  refine ka_iconst (v := 1) d_X5_quotient_10 rfl (by decide) ?_
  refine ks_iald row_26 d_X5_quotient_11 rfl (by unfold vp_in; decide) ?_
  refine ka_ixor d_X5_quotient_12 rfl ?_
  refine ka_istore_n (ls' := [(3, .int ((sf_ σ 26 (0 : Int32).toNatClampNeg) ^^^ (sf_ σ 26 (1 : Int32).toNatClampNeg))), (0, .ref 17), (1, .int x1), (2, .int x2)]) d_X5_quotient_13 rfl rfl (by decide) rfl ?_
  refine ka_aload_n d_X5_quotient_14 rfl rfl 1 rfl ?_
  refine gf_X5_11 d_X5_quotient_15 rfl fl_X5_33 ?_
  refine ka_iconst (v := 0) d_X5_quotient_18 rfl (by decide) ?_
  refine ks_iald row_25 d_X5_quotient_19 rfl (by unfold vp_in; decide) ?_
  refine ka_if_ne (tgt := 38) d_X5_quotient_20 (by decide) rfl (fun c1 => ?_) (fun c1 => ?_)
  · refine ka_sub [1, 2, 3, 0] rfl ?_
    exact (k2 c1)
  · refine ka_aload_n d_X5_quotient_23 rfl rfl 1 rfl ?_
    refine gf_X5_14 d_X5_quotient_24 rfl fl_X5_42 ?_
    refine ka_iconst (v := 0) d_X5_quotient_27 rfl (by decide) ?_
    refine ks_lald row_28 d_X5_quotient_28 rfl (by unfold vp_in; decide) ?_
    refine ka_lconst (v := 0) d_X5_quotient_29 rfl (by decide) ?_
    refine ka_lcmp d_X5_quotient_30 rfl ?_
    refine ka_if_ne (tgt := 38) d_X5_quotient_31 (by decide) rfl (fun c3 => ?_) (fun c3 => ?_)
    · refine ka_sub [1, 2, 3, 0] rfl ?_
      exact (k4 c1 c3)
    · refine ka_iconst (v := 1) d_X5_quotient_34 rfl (by decide) ?_
      refine ka_goto (q := 39) d_X5_quotient_35 (by decide) ?_
      refine ka_sub [1, 2, 3, 0] rfl ?_
      exact (k5 c1 c3)
theorem sg_X5_quotient_38 {L : Nat} {xs : Nat → Int32} {σ : ks_St} {mc ms : Nat} {P : ka_O → ks_St → Prop} {x1 : Int32} {x2 : Int32} {x3 : Int32}  (k1 : ks_W L xs mX5_quotient rm_X5_quotient 39 [(0, .ref 17), (1, .int x1), (2, .int x2), (3, .int x3)] [.int 0] σ mc ms P) : ks_W L xs mX5_quotient rm_X5_quotient 38 [(0, .ref 17), (1, .int x1), (2, .int x2), (3, .int x3)] [] σ mc ms P := by
  refine ka_iconst (v := 0) d_X5_quotient_38 rfl (by decide) ?_
  exact k1
theorem sg_X5_quotient_39 {L : Nat} {xs : Nat → Int32} {σ : ks_St} {mc ms : Nat} {P : ka_O → ks_St → Prop} {x1 : Int32} {x2 : Int32} {x3 : Int32} {s0 : Int32}  (k2 : (¬ (sf_ σ 25 (1 : Int32).toNatClampNeg) = 0) → ks_W L xs mX5_quotient rm_X5_quotient 65 [(0, .ref 17), (1, .int x1), (2, .int x2), (3, .int x3), (4, .int s0)] [] σ mc ms P) (k4 : ((sf_ σ 25 (1 : Int32).toNatClampNeg) = 0) → (¬ (lg_cmp (sg_ σ 28 (1 : Int32).toNatClampNeg) 0) = 0) → ks_W L xs mX5_quotient rm_X5_quotient 65 [(0, .ref 17), (1, .int x1), (2, .int x2), (3, .int x3), (4, .int s0)] [] σ mc ms P) (k5 : ((sf_ σ 25 (1 : Int32).toNatClampNeg) = 0) → ((lg_cmp (sg_ σ 28 (1 : Int32).toNatClampNeg) 0) = 0) → ks_W L xs mX5_quotient rm_X5_quotient 66 [(0, .ref 17), (1, .int x1), (2, .int x2), (3, .int x3), (4, .int s0)] [.int 1] σ mc ms P) : ks_W L xs mX5_quotient rm_X5_quotient 39 [(0, .ref 17), (1, .int x1), (2, .int x2), (3, .int x3)] [.int s0] σ mc ms P := by
  refine ka_istore (ls' := [(4, .int s0), (0, .ref 17), (1, .int x1), (2, .int x2), (3, .int x3)]) d_X5_quotient_39 rfl (by decide) rfl ?_
  refine ka_aload_n d_X5_quotient_41 rfl rfl 1 rfl ?_
  refine gf_X5_11 d_X5_quotient_42 rfl fl_X5_33 ?_
  refine ka_iconst (v := 1) d_X5_quotient_45 rfl (by decide) ?_
  refine ks_iald row_25 d_X5_quotient_46 rfl (by unfold vp_in; decide) ?_
  refine ka_if_ne (tgt := 65) d_X5_quotient_47 (by decide) rfl (fun c1 => ?_) (fun c1 => ?_)
  · refine ka_sub [1, 2, 3, 4, 0] rfl ?_
    exact (k2 c1)
  · refine ka_aload_n d_X5_quotient_50 rfl rfl 1 rfl ?_
    refine gf_X5_14 d_X5_quotient_51 rfl fl_X5_42 ?_
    refine ka_iconst (v := 1) d_X5_quotient_54 rfl (by decide) ?_
    refine ks_lald row_28 d_X5_quotient_55 rfl (by unfold vp_in; decide) ?_
    refine ka_lconst (v := 0) d_X5_quotient_56 rfl (by decide) ?_
    refine ka_lcmp d_X5_quotient_57 rfl ?_
    refine ka_if_ne (tgt := 65) d_X5_quotient_58 (by decide) rfl (fun c3 => ?_) (fun c3 => ?_)
    · refine ka_sub [1, 2, 3, 4, 0] rfl ?_
      exact (k4 c1 c3)
    · refine ka_iconst (v := 1) d_X5_quotient_61 rfl (by decide) ?_
      refine ka_goto (q := 66) d_X5_quotient_62 (by decide) ?_
      refine ka_sub [1, 2, 3, 4, 0] rfl ?_
      exact (k5 c1 c3)
theorem sg_X5_quotient_65 {L : Nat} {xs : Nat → Int32} {σ : ks_St} {mc ms : Nat} {P : ka_O → ks_St → Prop} {x1 : Int32} {x2 : Int32} {x3 : Int32} {x4 : Int32}  (k1 : ks_W L xs mX5_quotient rm_X5_quotient 66 [(0, .ref 17), (1, .int x1), (2, .int x2), (3, .int x3), (4, .int x4)] [.int 0] σ mc ms P) : ks_W L xs mX5_quotient rm_X5_quotient 65 [(0, .ref 17), (1, .int x1), (2, .int x2), (3, .int x3), (4, .int x4)] [] σ mc ms P := by
  refine ka_iconst (v := 0) d_X5_quotient_65 rfl (by decide) ?_
  exact k1
theorem sg_X5_quotient_66 {L : Nat} {xs : Nat → Int32} {σ : ks_St} {mc ms : Nat} {P : ka_O → ks_St → Prop} {x1 : Int32} {x2 : Int32} {x3 : Int32} {x4 : Int32} {s0 : Int32}  (k2 : (x4 = 0) → ks_W L xs mX5_quotient rm_X5_quotient 78 [(0, .ref 17), (1, .int x1), (2, .int x2), (3, .int x3), (4, .int x4), (5, .int s0)] [] σ mc ms P) (k4 : (¬ (x4 = 0)) → (¬ s0 = 0) → ks_W L xs mX5_quotient rm_X5_quotient 98 [(0, .ref 17), (1, .int x1)] [] σ mc ms P) (k5 : (¬ (x4 = 0)) → (s0 = 0) → ks_W L xs mX5_quotient rm_X5_quotient 78 [(0, .ref 17), (1, .int x1), (2, .int x2), (3, .int x3), (4, .int x4), (5, .int s0)] [] σ mc ms P) : ks_W L xs mX5_quotient rm_X5_quotient 66 [(0, .ref 17), (1, .int x1), (2, .int x2), (3, .int x3), (4, .int x4)] [.int s0] σ mc ms P := by
  refine ka_istore (ls' := [(5, .int s0), (0, .ref 17), (1, .int x1), (2, .int x2), (3, .int x3), (4, .int x4)]) d_X5_quotient_66 rfl (by decide) rfl ?_
  refine ka_iload d_X5_quotient_68 rfl 5 rfl ?_
  refine ka_if_eq (tgt := 78) d_X5_quotient_70 (by decide) rfl (fun c1 => ?_) (fun c1 => ?_)
  · refine ka_sub [1, 2, 3, 4, 5, 0] rfl ?_
    exact (k2 c1)
  · refine ka_iload d_X5_quotient_73 rfl 0 rfl ?_
    refine ka_if_ne (tgt := 98) d_X5_quotient_75 (by decide) rfl (fun c3 => ?_) (fun c3 => ?_)
    · refine ka_sub [1, 2] rfl ?_
      exact (k4 c1 c3)
    · refine ka_sub [1, 2, 3, 4, 5, 0] rfl ?_
      exact (k5 c1 c3)
theorem sg_X5_quotient_78 {L : Nat} {xs : Nat → Int32} {σ : ks_St} {mc ms : Nat} {P : ka_O → ks_St → Prop} {x1 : Int32} {x2 : Int32} {x3 : Int32} {x4 : Int32} {x5 : Int32}  (k2 : (¬ (sf_ σ 25 (0 : Int32).toNatClampNeg) = 1) → ks_W L xs mX5_quotient rm_X5_quotient 104 [(0, .ref 17), (1, .int x1), (2, .int x2), (3, .int x3), (4, .int x4), (5, .int x5)] [] σ mc ms P) (k4 : ((sf_ σ 25 (0 : Int32).toNatClampNeg) = 1) → (¬ (sf_ σ 25 (1 : Int32).toNatClampNeg) = 1) → ks_W L xs mX5_quotient rm_X5_quotient 104 [(0, .ref 17), (1, .int x1), (2, .int x2), (3, .int x3), (4, .int x4), (5, .int x5)] [] σ mc ms P) (k5 : ((sf_ σ 25 (0 : Int32).toNatClampNeg) = 1) → ((sf_ σ 25 (1 : Int32).toNatClampNeg) = 1) → ks_W L xs mX5_quotient rm_X5_quotient 98 [(0, .ref 17), (1, .int x1)] [] σ mc ms P) : ks_W L xs mX5_quotient rm_X5_quotient 78 [(0, .ref 17), (1, .int x1), (2, .int x2), (3, .int x3), (4, .int x4), (5, .int x5)] [] σ mc ms P := by
  refine ka_aload_n d_X5_quotient_78 rfl rfl 0 rfl ?_
  refine gf_X5_11 d_X5_quotient_79 rfl fl_X5_33 ?_
  refine ka_iconst (v := 0) d_X5_quotient_82 rfl (by decide) ?_
  refine ks_iald row_25 d_X5_quotient_83 rfl (by unfold vp_in; decide) ?_
  refine ka_iconst (v := 1) d_X5_quotient_84 rfl (by decide) ?_
  refine ka_icmp_ne (tgt := 104) d_X5_quotient_85 (by decide) rfl (fun c1 => ?_) (fun c1 => ?_)
  · exact (k2 c1)
  · refine ka_aload_n d_X5_quotient_88 rfl rfl 0 rfl ?_
    refine gf_X5_11 d_X5_quotient_89 rfl fl_X5_33 ?_
    refine ka_iconst (v := 1) d_X5_quotient_92 rfl (by decide) ?_
    refine ks_iald row_25 d_X5_quotient_93 rfl (by unfold vp_in; decide) ?_
    refine ka_iconst (v := 1) d_X5_quotient_94 rfl (by decide) ?_
    refine ka_icmp_ne (tgt := 104) d_X5_quotient_95 (by decide) rfl (fun c3 => ?_) (fun c3 => ?_)
    · exact (k4 c1 c3)
    · refine ka_sub [0, 1] rfl ?_
      exact (k5 c1 c3)
theorem sg_X5_quotient_98 {L : Nat} {xs : Nat → Int32} {σ : ks_St} {mc ms : Nat} {P : ka_O → ks_St → Prop} {x1 : Int32}  (k1 : ks_W L xs mX5_quotient rm_X5_quotient 100 [] [.int x1, .ref 17] σ mc ms P) : ks_W L xs mX5_quotient rm_X5_quotient 98 [(0, .ref 17), (1, .int x1)] [] σ mc ms P := by
  refine ka_aload_n d_X5_quotient_98 rfl rfl 0 rfl ?_
  refine ka_iload_n d_X5_quotient_99 rfl rfl 1 rfl ?_
  refine ka_sub [] rfl ?_
  exact k1
theorem cs_X5_quotient_100 {L : Nat} {xs : Nat → Int32} {σ : ks_St} {mc ms : Nat} {P : ka_O → ks_St → Prop} {f : Int64 → ks_St → Prop} {s1 : Int32} (hK : ks_M L xs mX5_notValid rm_X5_notValid [.ref 17, .int s1] σ (pl_ f)) (kr : ∀ r σ', f r σ' → ks_W L xs mX5_quotient rm_X5_quotient 103 [] [.long r] σ' mc ms P) : ks_W L xs mX5_quotient rm_X5_quotient 100 [] [.int s1, .ref 17] σ mc ms P := by
  refine ks_callV (q := 103) (o := 17) (ci := 5) (As := [.int s1]) (st := []) d_X5_quotient_100 rfl rfl (by decide) rfl rfl lk_X5_163 ⟨by decide, by decide⟩ (Nat.le_of_ble_eq_true rfl) ⟨Nat.le_refl _, Nat.le_refl _⟩ hK (fun v σ' hq => ?_) (fun E σ' hq => ?_)
  · obtain ⟨r, e, hf⟩ := hq; cases e; exact kr r σ' hf
  · obtain ⟨r, e, hf⟩ := hq; cases e
theorem sg_X5_quotient_103 {L : Nat} {xs : Nat → Int32} {σ : ks_St} {mc ms : Nat} {P : ka_O → ks_St → Prop} {s0 : Int64}  (r1 : P (.inl (some (.long s0))) σ) : ks_W L xs mX5_quotient rm_X5_quotient 103 [] [.long s0] σ mc ms P := by
  exact ks_lret d_X5_quotient_103 rfl r1
theorem sg_X5_quotient_104 {L : Nat} {xs : Nat → Int32} {σ : ks_St} {mc ms : Nat} {P : ka_O → ks_St → Prop} {x1 : Int32} {x2 : Int32} {x3 : Int32} {x4 : Int32} {x5 : Int32}  (k3 : (¬ (sf_ σ 25 (0 : Int32).toNatClampNeg) = 1) → (¬ x4 = 0) → ks_W L xs mX5_quotient rm_X5_quotient 135 [(1, .int x1), (3, .int x3)] [] σ mc ms P) (k6 : (¬ (sf_ σ 25 (0 : Int32).toNatClampNeg) = 1) → (x4 = 0) → (¬ (sf_ σ 25 (1 : Int32).toNatClampNeg) = 1) → (x5 = 0) → ks_W L xs mX5_quotient rm_X5_quotient 167 [(0, .ref 17), (1, .int x1), (2, .int x2), (3, .int x3)] [.long (sg_ σ 28 (0 : Int32).toNatClampNeg), .int 61] σ mc ms P) (k7 : (¬ (sf_ σ 25 (0 : Int32).toNatClampNeg) = 1) → (x4 = 0) → (¬ (sf_ σ 25 (1 : Int32).toNatClampNeg) = 1) → (¬ (x5 = 0)) → ks_W L xs mX5_quotient rm_X5_quotient 155 [] [.int x3, .int x1] (ui_ σ 17 2) mc ms P) (k8 : (¬ (sf_ σ 25 (0 : Int32).toNatClampNeg) = 1) → (x4 = 0) → ((sf_ σ 25 (1 : Int32).toNatClampNeg) = 1) → ks_W L xs mX5_quotient rm_X5_quotient 135 [(1, .int x1), (3, .int x3)] [] σ mc ms P) (k9 : ((sf_ σ 25 (0 : Int32).toNatClampNeg) = 1) → ks_W L xs mX5_quotient rm_X5_quotient 116 [] [.int x3, .int x1] σ mc ms P) : ks_W L xs mX5_quotient rm_X5_quotient 104 [(0, .ref 17), (1, .int x1), (2, .int x2), (3, .int x3), (4, .int x4), (5, .int x5)] [] σ mc ms P := by
  refine ka_aload_n d_X5_quotient_104 rfl rfl 0 rfl ?_
  refine gf_X5_11 d_X5_quotient_105 rfl fl_X5_33 ?_
  refine ka_iconst (v := 0) d_X5_quotient_108 rfl (by decide) ?_
  refine ks_iald row_25 d_X5_quotient_109 rfl (by unfold vp_in; decide) ?_
  refine ka_iconst (v := 1) d_X5_quotient_110 rfl (by decide) ?_
  refine ka_icmp_ne (tgt := 120) d_X5_quotient_111 (by decide) rfl (fun c1 => ?_) (fun c1 => ?_)
  · refine ka_iload d_X5_quotient_120 rfl 4 rfl ?_
    refine ka_if_ne (tgt := 135) d_X5_quotient_122 (by decide) rfl (fun c2 => ?_) (fun c2 => ?_)
    · refine ka_sub [1, 3] rfl ?_
      exact (k3 c1 c2)
    · refine ka_aload_n d_X5_quotient_125 rfl rfl 0 rfl ?_
      refine gf_X5_11 d_X5_quotient_126 rfl fl_X5_33 ?_
      refine ka_iconst (v := 1) d_X5_quotient_129 rfl (by decide) ?_
      refine ks_iald row_25 d_X5_quotient_130 rfl (by unfold vp_in; decide) ?_
      refine ka_iconst (v := 1) d_X5_quotient_131 rfl (by decide) ?_
      refine ka_icmp_ne (tgt := 143) d_X5_quotient_132 (by decide) rfl (fun c4 => ?_) (fun c4 => ?_)
      · refine ka_iload d_X5_quotient_143 rfl 5 rfl ?_
        refine ka_if_eq (tgt := 159) d_X5_quotient_145 (by decide) rfl (fun c5 => ?_) (fun c5 => ?_)
        · refine ka_bipush (v := 61) d_X5_quotient_159 rfl (by decide) ?_
          refine ka_aload_n d_X5_quotient_161 rfl rfl 0 rfl ?_
          refine gf_X5_14 d_X5_quotient_162 rfl fl_X5_42 ?_
          refine ka_iconst (v := 0) d_X5_quotient_165 rfl (by decide) ?_
          refine ks_lald row_28 d_X5_quotient_166 rfl (by unfold vp_in; decide) ?_
          refine ka_sub [0, 1, 2, 3] rfl ?_
          exact (k6 c1 c2 c4 c5)
        · refine ka_aload_n d_X5_quotient_148 rfl rfl 0 rfl ?_
          refine ka_iconst (v := 2) d_X5_quotient_149 rfl (by decide) ?_
          refine pf_X5_6 d_X5_quotient_150 rfl fl_X5_142 ?_
          refine ka_iload_n d_X5_quotient_153 rfl rfl 1 rfl ?_
          refine ka_iload_n d_X5_quotient_154 rfl rfl 3 rfl ?_
          refine ka_sub [] rfl ?_
          exact (k7 c1 c2 c4 c5)
      · refine ka_sub [1, 3] rfl ?_
        exact (k8 c1 c2 c4)
  · refine ka_iload_n d_X5_quotient_114 rfl rfl 1 rfl ?_
    refine ka_iload_n d_X5_quotient_115 rfl rfl 3 rfl ?_
    refine ka_sub [] rfl ?_
    exact (k9 c1)
theorem cs_X5_quotient_116 {L : Nat} {xs : Nat → Int32} {σ : ks_St} {mc ms : Nat} {P : ka_O → ks_St → Prop} {f : Int64 → ks_St → Prop} {s0 : Int32} {s1 : Int32} (hK : ks_M L xs mX5_infinite rm_X5_infinite [.int s0, .int s1] σ (pl_ f)) (kr : ∀ r σ', f r σ' → ks_W L xs mX5_quotient rm_X5_quotient 119 [] [.long r] σ' mc ms P) : ks_W L xs mX5_quotient rm_X5_quotient 116 [] [.int s1, .int s0] σ mc ms P := by
  refine ks_callS (q := 119) (As := [.int s0, .int s1]) (st := []) d_X5_quotient_116 rfl rfl lk_X5_159 ⟨by decide, by decide⟩ (Nat.le_of_ble_eq_true rfl) ⟨Nat.le_refl _, Nat.le_refl _⟩ hK (fun v σ' hq => ?_) (fun E σ' hq => ?_)
  · obtain ⟨r, e, hf⟩ := hq; cases e; exact kr r σ' hf
  · obtain ⟨r, e, hf⟩ := hq; cases e
theorem sg_X5_quotient_119 {L : Nat} {xs : Nat → Int32} {σ : ks_St} {mc ms : Nat} {P : ka_O → ks_St → Prop} {s0 : Int64}  (r1 : P (.inl (some (.long s0))) σ) : ks_W L xs mX5_quotient rm_X5_quotient 119 [] [.long s0] σ mc ms P := by
  exact ks_lret d_X5_quotient_119 rfl r1
theorem sg_X5_quotient_135 {L : Nat} {xs : Nat → Int32} {σ : ks_St} {mc ms : Nat} {P : ka_O → ks_St → Prop} {x1 : Int32} {x3 : Int32}  (k1 : ks_W L xs mX5_quotient rm_X5_quotient 139 [] [.long 0, .int 0, .int x3, .int x1] σ mc ms P) : ks_W L xs mX5_quotient rm_X5_quotient 135 [(1, .int x1), (3, .int x3)] [] σ mc ms P := by
  refine ka_iload_n d_X5_quotient_135 rfl rfl 0 rfl ?_
  refine ka_iload_n d_X5_quotient_136 rfl rfl 1 rfl ?_
  refine ka_iconst (v := 0) d_X5_quotient_137 rfl (by decide) ?_
  refine ka_lconst (v := 0) d_X5_quotient_138 rfl (by decide) ?_
  refine ka_sub [] rfl ?_
  exact k1
theorem cs_X5_quotient_139 {L : Nat} {xs : Nat → Int32} {σ : ks_St} {mc ms : Nat} {P : ka_O → ks_St → Prop} {f : Int64 → ks_St → Prop} {s0 : Int32} {s1 : Int32} {s2 : Int32} {s3 : Int64} (hK : ks_M L xs mX5_packed rm_X5_packed [.int s0, .int s1, .int s2, .long s3] σ (pl_ f)) (kr : ∀ r σ', f r σ' → ks_W L xs mX5_quotient rm_X5_quotient 142 [] [.long r] σ' mc ms P) : ks_W L xs mX5_quotient rm_X5_quotient 139 [] [.long s3, .int s2, .int s1, .int s0] σ mc ms P := by
  refine ks_callS (q := 142) (As := [.int s0, .int s1, .int s2, .long s3]) (st := []) d_X5_quotient_139 rfl rfl lk_X5_138 ⟨by decide, by decide⟩ (Nat.le_of_ble_eq_true rfl) ⟨Nat.le_refl _, Nat.le_refl _⟩ hK (fun v σ' hq => ?_) (fun E σ' hq => ?_)
  · obtain ⟨r, e, hf⟩ := hq; cases e; exact kr r σ' hf
  · obtain ⟨r, e, hf⟩ := hq; cases e
theorem sg_X5_quotient_142 {L : Nat} {xs : Nat → Int32} {σ : ks_St} {mc ms : Nat} {P : ka_O → ks_St → Prop} {s0 : Int64}  (r1 : P (.inl (some (.long s0))) σ) : ks_W L xs mX5_quotient rm_X5_quotient 142 [] [.long s0] σ mc ms P := by
  exact ks_lret d_X5_quotient_142 rfl r1
theorem cs_X5_quotient_155 {L : Nat} {xs : Nat → Int32} {σ : ks_St} {mc ms : Nat} {P : ka_O → ks_St → Prop} {f : Int64 → ks_St → Prop} {s0 : Int32} {s1 : Int32} (hK : ks_M L xs mX5_infinite rm_X5_infinite [.int s0, .int s1] σ (pl_ f)) (kr : ∀ r σ', f r σ' → ks_W L xs mX5_quotient rm_X5_quotient 158 [] [.long r] σ' mc ms P) : ks_W L xs mX5_quotient rm_X5_quotient 155 [] [.int s1, .int s0] σ mc ms P := by
  refine ks_callS (q := 158) (As := [.int s0, .int s1]) (st := []) d_X5_quotient_155 rfl rfl lk_X5_159 ⟨by decide, by decide⟩ (Nat.le_of_ble_eq_true rfl) ⟨Nat.le_refl _, Nat.le_refl _⟩ hK (fun v σ' hq => ?_) (fun E σ' hq => ?_)
  · obtain ⟨r, e, hf⟩ := hq; cases e; exact kr r σ' hf
  · obtain ⟨r, e, hf⟩ := hq; cases e
theorem sg_X5_quotient_158 {L : Nat} {xs : Nat → Int32} {σ : ks_St} {mc ms : Nat} {P : ka_O → ks_St → Prop} {s0 : Int64}  (r1 : P (.inl (some (.long s0))) σ) : ks_W L xs mX5_quotient rm_X5_quotient 158 [] [.long s0] σ mc ms P := by
  exact ks_lret d_X5_quotient_158 rfl r1
theorem cs_X5_quotient_167 {L : Nat} {xs : Nat → Int32} {σ : ks_St} {mc ms : Nat} {P : ka_O → ks_St → Prop} {f : Int32 → ks_St → Prop} {x1 : Int32} {x2 : Int32} {x3 : Int32} {s0 : Int32} {s1 : Int64} (hK : ks_M L xs mX5_highest rm_X5_highest [.long s1] σ (pi_ f)) (kr : ∀ r σ', f r σ' → ks_W L xs mX5_quotient rm_X5_quotient 170 [(0, .ref 17), (1, .int x1), (2, .int x2), (3, .int x3)] [.int r, .int s0] σ' mc ms P) : ks_W L xs mX5_quotient rm_X5_quotient 167 [(0, .ref 17), (1, .int x1), (2, .int x2), (3, .int x3)] [.long s1, .int s0] σ mc ms P := by
  refine ks_callS (q := 170) (As := [.long s1]) (st := [.int s0]) d_X5_quotient_167 rfl rfl lk_X5_149 ⟨by decide, by decide⟩ (Nat.le_of_ble_eq_true rfl) ⟨Nat.le_refl _, Nat.le_refl _⟩ hK (fun v σ' hq => ?_) (fun E σ' hq => ?_)
  · obtain ⟨r, e, hf⟩ := hq; cases e; exact kr r σ' hf
  · obtain ⟨r, e, hf⟩ := hq; cases e
theorem sg_X5_quotient_170 {L : Nat} {xs : Nat → Int32} {σ : ks_St} {mc ms : Nat} {P : ka_O → ks_St → Prop} {x1 : Int32} {x2 : Int32} {x3 : Int32} {s0 : Int32} {s1 : Int32}  (z1 : ¬ (sg_ σ 28 (1 : Int32).toNatClampNeg) = 0) (k3 : ((lg_cmp ((((sg_ σ 28 (0 : Int32).toNatClampNeg) <<< (((s0 - s1)).toInt64 &&& 63)) / (sg_ σ 28 (1 : Int32).toNatClampNeg)) * (sg_ σ 28 (1 : Int32).toNatClampNeg)) ((sg_ σ 28 (0 : Int32).toNatClampNeg) <<< (((s0 - s1)).toInt64 &&& 63))) = 0) → ks_W L xs mX5_quotient rm_X5_quotient 218 [(0, .ref 17), (1, .int x1), (2, .int x2), (3, .int x3), (6, .int (s0 - s1)), (7, .long (((sg_ σ 28 (0 : Int32).toNatClampNeg) <<< (((s0 - s1)).toInt64 &&& 63)) / (sg_ σ 28 (1 : Int32).toNatClampNeg)))] [.int 0] σ mc ms P) (k4 : (¬ ((lg_cmp ((((sg_ σ 28 (0 : Int32).toNatClampNeg) <<< (((s0 - s1)).toInt64 &&& 63)) / (sg_ σ 28 (1 : Int32).toNatClampNeg)) * (sg_ σ 28 (1 : Int32).toNatClampNeg)) ((sg_ σ 28 (0 : Int32).toNatClampNeg) <<< (((s0 - s1)).toInt64 &&& 63))) = 0)) → ks_W L xs mX5_quotient rm_X5_quotient 218 [(0, .ref 17), (1, .int x1), (2, .int x2), (3, .int x3), (6, .int (s0 - s1)), (7, .long (((sg_ σ 28 (0 : Int32).toNatClampNeg) <<< (((s0 - s1)).toInt64 &&& 63)) / (sg_ σ 28 (1 : Int32).toNatClampNeg)))] [.int 1] σ mc ms P) : ks_W L xs mX5_quotient rm_X5_quotient 170 [(0, .ref 17), (1, .int x1), (2, .int x2), (3, .int x3)] [.int s1, .int s0] σ mc ms P := by
  refine ka_isub d_X5_quotient_170 rfl ?_
  refine ka_istore (ls' := [(6, .int (s0 - s1)), (0, .ref 17), (1, .int x1), (2, .int x2), (3, .int x3)]) d_X5_quotient_171 rfl (by decide) rfl ?_
  refine ka_aload_n d_X5_quotient_173 rfl rfl 1 rfl ?_
  refine gf_X5_14 d_X5_quotient_174 rfl fl_X5_42 ?_
  refine ka_iconst (v := 0) d_X5_quotient_177 rfl (by decide) ?_
  refine ks_lald row_28 d_X5_quotient_178 rfl (by unfold vp_in; decide) ?_
  refine ka_iload d_X5_quotient_179 rfl 0 rfl ?_
  refine ka_lshl d_X5_quotient_181 rfl ?_
  refine ka_aload_n d_X5_quotient_182 rfl rfl 1 rfl ?_
  refine gf_X5_14 d_X5_quotient_183 rfl fl_X5_42 ?_
  refine ka_iconst (v := 1) d_X5_quotient_186 rfl (by decide) ?_
  refine ks_lald row_28 d_X5_quotient_187 rfl (by unfold vp_in; decide) ?_
  refine ka_ldiv d_X5_quotient_188 rfl z1 ?_
  refine ka_lstore (ls' := [(7, .long (((sg_ σ 28 (0 : Int32).toNatClampNeg) <<< (((s0 - s1)).toInt64 &&& 63)) / (sg_ σ 28 (1 : Int32).toNatClampNeg))), (6, .int (s0 - s1)), (0, .ref 17), (1, .int x1), (2, .int x2), (3, .int x3)]) d_X5_quotient_189 rfl (by decide) rfl ?_
  refine ka_lload d_X5_quotient_191 rfl 0 rfl ?_
  refine ka_aload_n d_X5_quotient_193 rfl rfl 2 rfl ?_
  refine gf_X5_14 d_X5_quotient_194 rfl fl_X5_42 ?_
  refine ka_iconst (v := 1) d_X5_quotient_197 rfl (by decide) ?_
  refine ks_lald row_28 d_X5_quotient_198 rfl (by unfold vp_in; decide) ?_
  refine ka_lmul d_X5_quotient_199 rfl ?_
  refine ka_aload_n d_X5_quotient_200 rfl rfl 2 rfl ?_
  refine gf_X5_14 d_X5_quotient_201 rfl fl_X5_42 ?_
  refine ka_iconst (v := 0) d_X5_quotient_204 rfl (by decide) ?_
  refine ks_lald row_28 d_X5_quotient_205 rfl (by unfold vp_in; decide) ?_
  refine ka_iload d_X5_quotient_206 rfl 1 rfl ?_
  refine ka_lshl d_X5_quotient_208 rfl ?_
  refine ka_lcmp d_X5_quotient_209 rfl ?_
  refine ka_if_eq (tgt := 217) d_X5_quotient_210 (by decide) rfl (fun c2 => ?_) (fun c2 => ?_)
  · refine ka_iconst (v := 0) d_X5_quotient_217 rfl (by decide) ?_
    refine ka_sub [2, 3, 4, 5, 1, 0] rfl ?_
    exact (k3 c2)
  · refine ka_iconst (v := 1) d_X5_quotient_213 rfl (by decide) ?_
    refine ka_goto (q := 218) d_X5_quotient_214 (by decide) ?_
    refine ka_sub [2, 3, 4, 5, 1, 0] rfl ?_
    exact (k4 c2)
theorem sg_X5_quotient_218 {L : Nat} {xs : Nat → Int32} {σ : ks_St} {mc ms : Nat} {P : ka_O → ks_St → Prop} {x1 : Int32} {x2 : Int32} {x3 : Int32} {x6 : Int32} {x7 : Int64} {s0 : Int32}  (k2 : (¬ (lg_cmp (x7 &&& 3) 0) = 0) → ks_W L xs mX5_quotient rm_X5_quotient 245 [(0, .ref 17), (2, .int x2), (6, .int x6)] [.long ((x7 >>> (((2 : Int32)).toInt64 &&& 63)) <<< (((1 : Int32)).toInt64 &&& 63)), .int x3, .int x1, .ref 17] σ mc ms P) (k4 : ((lg_cmp (x7 &&& 3) 0) = 0) → (s0 = 0) → ks_W L xs mX5_quotient rm_X5_quotient 250 [(0, .ref 17), (2, .int x2), (6, .int x6)] [.long 0, .long ((x7 >>> (((2 : Int32)).toInt64 &&& 63)) <<< (((1 : Int32)).toInt64 &&& 63)), .int x3, .int x1, .ref 17] σ mc ms P) (k5 : ((lg_cmp (x7 &&& 3) 0) = 0) → (¬ (s0 = 0)) → ks_W L xs mX5_quotient rm_X5_quotient 245 [(0, .ref 17), (2, .int x2), (6, .int x6)] [.long ((x7 >>> (((2 : Int32)).toInt64 &&& 63)) <<< (((1 : Int32)).toInt64 &&& 63)), .int x3, .int x1, .ref 17] σ mc ms P) : ks_W L xs mX5_quotient rm_X5_quotient 218 [(0, .ref 17), (1, .int x1), (2, .int x2), (3, .int x3), (6, .int x6), (7, .long x7)] [.int s0] σ mc ms P := by
  refine ka_istore (ls' := [(9, .int s0), (0, .ref 17), (1, .int x1), (2, .int x2), (3, .int x3), (6, .int x6), (7, .long x7)]) d_X5_quotient_218 rfl (by decide) rfl ?_
  refine ka_aload_n d_X5_quotient_220 rfl rfl 1 rfl ?_
  refine ka_iload_n d_X5_quotient_221 rfl rfl 2 rfl ?_
  refine ka_iload_n d_X5_quotient_222 rfl rfl 4 rfl ?_
  refine ka_lload d_X5_quotient_223 rfl 6 rfl ?_
  refine ka_iconst (v := 2) d_X5_quotient_225 rfl (by decide) ?_
  refine ka_lshr d_X5_quotient_226 rfl ?_
  refine ka_iconst (v := 1) d_X5_quotient_227 rfl (by decide) ?_
  refine ka_lshl d_X5_quotient_228 rfl ?_
  refine ka_lload d_X5_quotient_229 rfl 6 rfl ?_
  refine ka_ldc2 (v := 3) d_X5_quotient_231 rfl kl_X5_170 ?_
  refine ka_land d_X5_quotient_234 rfl ?_
  refine ka_lconst (v := 0) d_X5_quotient_235 rfl (by decide) ?_
  refine ka_lcmp d_X5_quotient_236 rfl ?_
  refine ka_if_ne (tgt := 245) d_X5_quotient_237 (by decide) rfl (fun c1 => ?_) (fun c1 => ?_)
  · refine ka_sub [1, 3, 5] rfl ?_
    exact (k2 c1)
  · refine ka_iload d_X5_quotient_240 rfl 0 rfl ?_
    refine ka_if_eq (tgt := 249) d_X5_quotient_242 (by decide) rfl (fun c3 => ?_) (fun c3 => ?_)
    · refine ka_lconst (v := 0) d_X5_quotient_249 rfl (by decide) ?_
      refine ka_sub [1, 3, 5] rfl ?_
      exact (k4 c1 c3)
    · refine ka_sub [1, 3, 5] rfl ?_
      exact (k5 c1 c3)
theorem sg_X5_quotient_245 {L : Nat} {xs : Nat → Int32} {σ : ks_St} {mc ms : Nat} {P : ka_O → ks_St → Prop} {x2 : Int32} {x6 : Int32} {s1 : Int32} {s2 : Int32} {s3 : Int64}  (k1 : ks_W L xs mX5_quotient rm_X5_quotient 250 [(0, .ref 17), (2, .int x2), (6, .int x6)] [.long 1, .long s3, .int s2, .int s1, .ref 17] σ mc ms P) : ks_W L xs mX5_quotient rm_X5_quotient 245 [(0, .ref 17), (2, .int x2), (6, .int x6)] [.long s3, .int s2, .int s1, .ref 17] σ mc ms P := by
  refine ka_lconst (v := 1) d_X5_quotient_245 rfl (by decide) ?_
  refine ka_goto (q := 250) d_X5_quotient_246 (by decide) ?_
  exact k1
theorem sg_X5_quotient_250 {L : Nat} {xs : Nat → Int32} {σ : ks_St} {mc ms : Nat} {P : ka_O → ks_St → Prop} {x2 : Int32} {x6 : Int32} {s1 : Int32} {s2 : Int32} {s3 : Int64} {s4 : Int64}  (k1 : ks_W L xs mX5_quotient rm_X5_quotient 270 [] [.int x2, .int ((((sf_ σ 27 (0 : Int32).toNatClampNeg) - (sf_ σ 27 (1 : Int32).toNatClampNeg)) - x6) + 1), .long (s3 ||| s4), .int s2, .int s1, .ref 17] σ mc ms P) : ks_W L xs mX5_quotient rm_X5_quotient 250 [(0, .ref 17), (2, .int x2), (6, .int x6)] [.long s4, .long s3, .int s2, .int s1, .ref 17] σ mc ms P := by
  refine ka_lor d_X5_quotient_250 rfl ?_
  refine ka_aload_n d_X5_quotient_251 rfl rfl 0 rfl ?_
  refine gf_X5_13 d_X5_quotient_252 rfl fl_X5_39 ?_
  refine ka_iconst (v := 0) d_X5_quotient_255 rfl (by decide) ?_
  refine ks_iald row_27 d_X5_quotient_256 rfl (by unfold vp_in; decide) ?_
  refine ka_aload_n d_X5_quotient_257 rfl rfl 0 rfl ?_
  refine gf_X5_13 d_X5_quotient_258 rfl fl_X5_39 ?_
  refine ka_iconst (v := 1) d_X5_quotient_261 rfl (by decide) ?_
  refine ks_iald row_27 d_X5_quotient_262 rfl (by unfold vp_in; decide) ?_
  refine ka_isub d_X5_quotient_263 rfl ?_
  refine ka_iload d_X5_quotient_264 rfl 2 rfl ?_
  refine ka_isub d_X5_quotient_266 rfl ?_
  refine ka_iconst (v := 1) d_X5_quotient_267 rfl (by decide) ?_
  refine ka_iadd d_X5_quotient_268 rfl ?_
  refine ka_iload_n d_X5_quotient_269 rfl rfl 1 rfl ?_
  refine ka_sub [] rfl ?_
  exact k1
theorem cs_X5_quotient_270 {L : Nat} {xs : Nat → Int32} {σ : ks_St} {mc ms : Nat} {P : ka_O → ks_St → Prop} {f : Int64 → ks_St → Prop} {s1 : Int32} {s2 : Int32} {s3 : Int64} {s4 : Int32} {s5 : Int32} (hK : ks_M L xs mX5_rounded rm_X5_rounded [.ref 17, .int s1, .int s2, .long s3, .int s4, .int s5] σ (pl_ f)) (kr : ∀ r σ', f r σ' → ks_W L xs mX5_quotient rm_X5_quotient 273 [] [.long r] σ' mc ms P) : ks_W L xs mX5_quotient rm_X5_quotient 270 [] [.int s5, .int s4, .long s3, .int s2, .int s1, .ref 17] σ mc ms P := by
  refine ks_callV (q := 273) (o := 17) (ci := 5) (As := [.int s1, .int s2, .long s3, .int s4, .int s5]) (st := []) d_X5_quotient_270 rfl rfl (by decide) rfl rfl lk_X5_166 ⟨by decide, by decide⟩ (Nat.le_of_ble_eq_true rfl) ⟨Nat.le_refl _, Nat.le_refl _⟩ hK (fun v σ' hq => ?_) (fun E σ' hq => ?_)
  · obtain ⟨r, e, hf⟩ := hq; cases e; exact kr r σ' hf
  · obtain ⟨r, e, hf⟩ := hq; cases e
theorem sg_X5_quotient_273 {L : Nat} {xs : Nat → Int32} {σ : ks_St} {mc ms : Nat} {P : ka_O → ks_St → Prop} {s0 : Int64}  (r1 : P (.inl (some (.long s0))) σ) : ks_W L xs mX5_quotient rm_X5_quotient 273 [] [.long s0] σ mc ms P := by
  exact ks_lret d_X5_quotient_273 rfl r1
theorem d_X5_real_0 : decode cX5_real 0 = .ok (.aload_n 0, 1) := by decide +kernel
theorem d_X5_real_1 : decode cX5_real 1 = .ok (.iload_n 2, 1) := by decide +kernel
theorem d_X5_real_2 : decode cX5_real 2 = .ok (.invokevirtual 64, 3) := by decide +kernel
theorem d_X5_real_5 : decode cX5_real 5 = .ok (.ifCond .eq 11, 3) := by decide +kernel
theorem d_X5_real_8 : decode cX5_real 8 = .ok (.aload_n 0, 1) := by decide +kernel
theorem d_X5_real_9 : decode cX5_real 9 = .ok (.iload_n 3, 1) := by decide +kernel
theorem d_X5_real_10 : decode cX5_real 10 = .ok (.invokevirtual 64, 3) := by decide +kernel
theorem d_X5_real_13 : decode cX5_real 13 = .ok (.ifCond .ne 7, 3) := by decide +kernel
theorem d_X5_real_16 : decode cX5_real 16 = .ok (.iconst 1, 1) := by decide +kernel
theorem d_X5_real_17 : decode cX5_real 17 = .ok (.goto 4, 3) := by decide +kernel
theorem d_X5_real_20 : decode cX5_real 20 = .ok (.iconst 0, 1) := by decide +kernel
theorem d_X5_real_21 : decode cX5_real 21 = .ok (.istore 5, 2) := by decide +kernel
theorem d_X5_real_23 : decode cX5_real 23 = .ok (.iload 5, 2) := by decide +kernel
theorem d_X5_real_25 : decode cX5_real 25 = .ok (.ifCond .ne 71, 3) := by decide +kernel
theorem d_X5_real_28 : decode cX5_real 28 = .ok (.iload_n 1, 1) := by decide +kernel
theorem d_X5_real_29 : decode cX5_real 29 = .ok (.ifCond .lt 67, 3) := by decide +kernel
theorem d_X5_real_32 : decode cX5_real 32 = .ok (.iload_n 1, 1) := by decide +kernel
theorem d_X5_real_33 : decode cX5_real 33 = .ok (.iconst 3, 1) := by decide +kernel
theorem d_X5_real_34 : decode cX5_real 34 = .ok (.if_icmp .gt 62, 3) := by decide +kernel
theorem d_X5_real_37 : decode cX5_real 37 = .ok (.iload 4, 2) := by decide +kernel
theorem d_X5_real_39 : decode cX5_real 39 = .ok (.ifCond .lt 57, 3) := by decide +kernel
theorem d_X5_real_42 : decode cX5_real 42 = .ok (.iload 4, 2) := by decide +kernel
theorem d_X5_real_44 : decode cX5_real 44 = .ok (.iconst 4, 1) := by decide +kernel
theorem d_X5_real_45 : decode cX5_real 45 = .ok (.if_icmp .gt 51, 3) := by decide +kernel
theorem d_X5_real_48 : decode cX5_real 48 = .ok (.aload_n 0, 1) := by decide +kernel
theorem d_X5_real_49 : decode cX5_real 49 = .ok (.getfield 7, 3) := by decide +kernel
theorem d_X5_real_52 : decode cX5_real 52 = .ok (.iload_n 2, 1) := by decide +kernel
theorem d_X5_real_53 : decode cX5_real 53 = .ok (.iaload, 1) := by decide +kernel
theorem d_X5_real_54 : decode cX5_real 54 = .ok (.aload_n 0, 1) := by decide +kernel
theorem d_X5_real_55 : decode cX5_real 55 = .ok (.getfield 7, 3) := by decide +kernel
theorem d_X5_real_58 : decode cX5_real 58 = .ok (.iload_n 3, 1) := by decide +kernel
theorem d_X5_real_59 : decode cX5_real 59 = .ok (.iaload, 1) := by decide +kernel
theorem d_X5_real_60 : decode cX5_real 60 = .ok (.if_icmp .ne 36, 3) := by decide +kernel
theorem d_X5_real_63 : decode cX5_real 63 = .ok (.aload_n 0, 1) := by decide +kernel
theorem d_X5_real_64 : decode cX5_real 64 = .ok (.getfield 7, 3) := by decide +kernel
theorem d_X5_real_67 : decode cX5_real 67 = .ok (.iload_n 2, 1) := by decide +kernel
theorem d_X5_real_68 : decode cX5_real 68 = .ok (.iaload, 1) := by decide +kernel
theorem d_X5_real_69 : decode cX5_real 69 = .ok (.bipush 8, 2) := by decide +kernel
theorem d_X5_real_71 : decode cX5_real 71 = .ok (.if_icmp .eq 29, 3) := by decide +kernel
theorem d_X5_real_74 : decode cX5_real 74 = .ok (.aload_n 0, 1) := by decide +kernel
theorem d_X5_real_75 : decode cX5_real 75 = .ok (.getfield 7, 3) := by decide +kernel
theorem d_X5_real_78 : decode cX5_real 78 = .ok (.iload_n 2, 1) := by decide +kernel
theorem d_X5_real_79 : decode cX5_real 79 = .ok (.iaload, 1) := by decide +kernel
theorem d_X5_real_80 : decode cX5_real 80 = .ok (.bipush 16, 2) := by decide +kernel
theorem d_X5_real_82 : decode cX5_real 82 = .ok (.if_icmp .eq 18, 3) := by decide +kernel
theorem d_X5_real_85 : decode cX5_real 85 = .ok (.aload_n 0, 1) := by decide +kernel
theorem d_X5_real_86 : decode cX5_real 86 = .ok (.getfield 7, 3) := by decide +kernel
theorem d_X5_real_89 : decode cX5_real 89 = .ok (.iload_n 2, 1) := by decide +kernel
theorem d_X5_real_90 : decode cX5_real 90 = .ok (.iaload, 1) := by decide +kernel
theorem d_X5_real_91 : decode cX5_real 91 = .ok (.bipush 32, 2) := by decide +kernel
theorem d_X5_real_93 : decode cX5_real 93 = .ok (.if_icmp .eq 7, 3) := by decide +kernel
theorem d_X5_real_96 : decode cX5_real 96 = .ok (.iconst 1, 1) := by decide +kernel
theorem d_X5_real_97 : decode cX5_real 97 = .ok (.goto 4, 3) := by decide +kernel
theorem d_X5_real_100 : decode cX5_real 100 = .ok (.iconst 0, 1) := by decide +kernel
theorem d_X5_real_101 : decode cX5_real 101 = .ok (.istore 6, 2) := by decide +kernel
theorem d_X5_real_103 : decode cX5_real 103 = .ok (.aload_n 0, 1) := by decide +kernel
theorem d_X5_real_104 : decode cX5_real 104 = .ok (.iload 5, 2) := by decide +kernel
theorem d_X5_real_106 : decode cX5_real 106 = .ok (.iload 6, 2) := by decide +kernel
theorem d_X5_real_108 : decode cX5_real 108 = .ok (.aload_n 0, 1) := by decide +kernel
theorem d_X5_real_109 : decode cX5_real 109 = .ok (.getfield 53, 3) := by decide +kernel
theorem d_X5_real_112 : decode cX5_real 112 = .ok (.sipush 600, 3) := by decide +kernel
theorem d_X5_real_115 : decode cX5_real 115 = .ok (.if_icmp .ne 7, 3) := by decide +kernel
theorem d_X5_real_118 : decode cX5_real 118 = .ok (.iconst 1, 1) := by decide +kernel
theorem d_X5_real_119 : decode cX5_real 119 = .ok (.goto 4, 3) := by decide +kernel
theorem d_X5_real_122 : decode cX5_real 122 = .ok (.iconst 0, 1) := by decide +kernel
theorem d_X5_real_123 : decode cX5_real 123 = .ok (.iconst 0, 1) := by decide +kernel
theorem d_X5_real_124 : decode cX5_real 124 = .ok (.invokevirtual 56, 3) := by decide +kernel
theorem d_X5_real_127 : decode cX5_real 127 = .ok (.ifCond .eq 5, 3) := by decide +kernel
theorem d_X5_real_130 : decode cX5_real 130 = .ok (.iconst 0, 1) := by decide +kernel
theorem d_X5_real_131 : decode cX5_real 131 = .ok (.ireturn, 1) := by decide +kernel
theorem d_X5_real_132 : decode cX5_real 132 = .ok (.aload_n 0, 1) := by decide +kernel
theorem d_X5_real_133 : decode cX5_real 133 = .ok (.getfield 7, 3) := by decide +kernel
theorem d_X5_real_136 : decode cX5_real 136 = .ok (.iload_n 2, 1) := by decide +kernel
theorem d_X5_real_137 : decode cX5_real 137 = .ok (.iaload, 1) := by decide +kernel
theorem d_X5_real_138 : decode cX5_real 138 = .ok (.istore 7, 2) := by decide +kernel
theorem d_X5_real_140 : decode cX5_real 140 = .ok (.aload_n 0, 1) := by decide +kernel
theorem d_X5_real_141 : decode cX5_real 141 = .ok (.iconst 0, 1) := by decide +kernel
theorem d_X5_real_142 : decode cX5_real 142 = .ok (.iload_n 2, 1) := by decide +kernel
theorem d_X5_real_143 : decode cX5_real 143 = .ok (.iconst 0, 1) := by decide +kernel
theorem d_X5_real_144 : decode cX5_real 144 = .ok (.invokevirtual 172, 3) := by decide +kernel
theorem d_X5_real_147 : decode cX5_real 147 = .ok (.aload_n 0, 1) := by decide +kernel
theorem d_X5_real_148 : decode cX5_real 148 = .ok (.iconst 1, 1) := by decide +kernel
theorem d_X5_real_149 : decode cX5_real 149 = .ok (.iload_n 3, 1) := by decide +kernel
theorem d_X5_real_150 : decode cX5_real 150 = .ok (.iload_n 1, 1) := by decide +kernel
theorem d_X5_real_151 : decode cX5_real 151 = .ok (.iconst 1, 1) := by decide +kernel
theorem d_X5_real_152 : decode cX5_real 152 = .ok (.if_icmp .ne 7, 3) := by decide +kernel
theorem d_X5_real_155 : decode cX5_real 155 = .ok (.iconst 1, 1) := by decide +kernel
theorem d_X5_real_156 : decode cX5_real 156 = .ok (.goto 4, 3) := by decide +kernel
theorem d_X5_real_159 : decode cX5_real 159 = .ok (.iconst 0, 1) := by decide +kernel
theorem d_X5_real_160 : decode cX5_real 160 = .ok (.invokevirtual 172, 3) := by decide +kernel
theorem d_X5_real_163 : decode cX5_real 163 = .ok (.aload_n 0, 1) := by decide +kernel
theorem d_X5_real_164 : decode cX5_real 164 = .ok (.iconst 0, 1) := by decide +kernel
theorem d_X5_real_165 : decode cX5_real 165 = .ok (.putfield 142, 3) := by decide +kernel
theorem d_X5_real_168 : decode cX5_real 168 = .ok (.lconst 0, 1) := by decide +kernel
theorem d_X5_real_169 : decode cX5_real 169 = .ok (.lstore 8, 2) := by decide +kernel
theorem d_X5_real_171 : decode cX5_real 171 = .ok (.aload_n 0, 1) := by decide +kernel
theorem d_X5_real_172 : decode cX5_real 172 = .ok (.getfield 33, 3) := by decide +kernel
theorem d_X5_real_175 : decode cX5_real 175 = .ok (.iconst 0, 1) := by decide +kernel
theorem d_X5_real_176 : decode cX5_real 176 = .ok (.iaload, 1) := by decide +kernel
theorem d_X5_real_177 : decode cX5_real 177 = .ok (.iconst 2, 1) := by decide +kernel
theorem d_X5_real_178 : decode cX5_real 178 = .ok (.if_icmp .eq 13, 3) := by decide +kernel
theorem d_X5_real_181 : decode cX5_real 181 = .ok (.aload_n 0, 1) := by decide +kernel
theorem d_X5_real_182 : decode cX5_real 182 = .ok (.getfield 33, 3) := by decide +kernel
theorem d_X5_real_185 : decode cX5_real 185 = .ok (.iconst 1, 1) := by decide +kernel
theorem d_X5_real_186 : decode cX5_real 186 = .ok (.iaload, 1) := by decide +kernel
theorem d_X5_real_187 : decode cX5_real 187 = .ok (.iconst 2, 1) := by decide +kernel
theorem d_X5_real_188 : decode cX5_real 188 = .ok (.if_icmp .ne 13, 3) := by decide +kernel
theorem d_X5_real_191 : decode cX5_real 191 = .ok (.iload 7, 2) := by decide +kernel
theorem d_X5_real_193 : decode cX5_real 193 = .ok (.invokestatic 145, 3) := by decide +kernel
theorem d_X5_real_196 : decode cX5_real 196 = .ok (.lstore 8, 2) := by decide +kernel
theorem d_X5_real_198 : decode cX5_real 198 = .ok (.goto 47, 3) := by decide +kernel
theorem d_X5_real_201 : decode cX5_real 201 = .ok (.iload_n 1, 1) := by decide +kernel
theorem d_X5_real_202 : decode cX5_real 202 = .ok (.iconst 2, 1) := by decide +kernel
theorem d_X5_real_203 : decode cX5_real 203 = .ok (.if_icmp .ge 16, 3) := by decide +kernel
theorem d_X5_real_206 : decode cX5_real 206 = .ok (.aload_n 0, 1) := by decide +kernel
theorem d_X5_real_207 : decode cX5_real 207 = .ok (.iload 7, 2) := by decide +kernel
theorem d_X5_real_209 : decode cX5_real 209 = .ok (.iload 4, 2) := by decide +kernel
theorem d_X5_real_211 : decode cX5_real 211 = .ok (.invokevirtual 176, 3) := by decide +kernel
theorem d_X5_real_214 : decode cX5_real 214 = .ok (.lstore 8, 2) := by decide +kernel
theorem d_X5_real_216 : decode cX5_real 216 = .ok (.goto 29, 3) := by decide +kernel
theorem d_X5_real_219 : decode cX5_real 219 = .ok (.iload_n 1, 1) := by decide +kernel
theorem d_X5_real_220 : decode cX5_real 220 = .ok (.iconst 2, 1) := by decide +kernel
theorem d_X5_real_221 : decode cX5_real 221 = .ok (.if_icmp .ne 14, 3) := by decide +kernel
theorem d_X5_real_224 : decode cX5_real 224 = .ok (.aload_n 0, 1) := by decide +kernel
theorem d_X5_real_225 : decode cX5_real 225 = .ok (.iload 7, 2) := by decide +kernel
theorem d_X5_real_227 : decode cX5_real 227 = .ok (.iload 4, 2) := by decide +kernel
theorem d_X5_real_229 : decode cX5_real 229 = .ok (.invokevirtual 179, 3) := by decide +kernel
theorem d_X5_real_232 : decode cX5_real 232 = .ok (.goto 11, 3) := by decide +kernel
theorem d_X5_real_235 : decode cX5_real 235 = .ok (.aload_n 0, 1) := by decide +kernel
theorem d_X5_real_236 : decode cX5_real 236 = .ok (.iload 7, 2) := by decide +kernel
theorem d_X5_real_238 : decode cX5_real 238 = .ok (.iload 4, 2) := by decide +kernel
theorem d_X5_real_240 : decode cX5_real 240 = .ok (.invokevirtual 182, 3) := by decide +kernel
theorem d_X5_real_243 : decode cX5_real 243 = .ok (.lstore 8, 2) := by decide +kernel
theorem d_X5_real_245 : decode cX5_real 245 = .ok (.iconst 0, 1) := by decide +kernel
theorem d_X5_real_246 : decode cX5_real 246 = .ok (.istore 10, 2) := by decide +kernel
theorem d_X5_real_248 : decode cX5_real 248 = .ok (.iload 10, 2) := by decide +kernel
theorem d_X5_real_250 : decode cX5_real 250 = .ok (.iload 7, 2) := by decide +kernel
theorem d_X5_real_252 : decode cX5_real 252 = .ok (.if_icmp .ge 24, 3) := by decide +kernel
theorem d_X5_real_255 : decode cX5_real 255 = .ok (.aload_n 0, 1) := by decide +kernel
theorem d_X5_real_256 : decode cX5_real 256 = .ok (.getfield 27, 3) := by decide +kernel
theorem d_X5_real_259 : decode cX5_real 259 = .ok (.iload 10, 2) := by decide +kernel
theorem d_X5_real_261 : decode cX5_real 261 = .ok (.lload 8, 2) := by decide +kernel
theorem d_X5_real_263 : decode cX5_real 263 = .ok (.iload 10, 2) := by decide +kernel
theorem d_X5_real_265 : decode cX5_real 265 = .ok (.lshr, 1) := by decide +kernel
theorem d_X5_real_266 : decode cX5_real 266 = .ok (.l2i, 1) := by decide +kernel
theorem d_X5_real_267 : decode cX5_real 267 = .ok (.iconst 1, 1) := by decide +kernel
theorem d_X5_real_268 : decode cX5_real 268 = .ok (.iand, 1) := by decide +kernel
theorem d_X5_real_269 : decode cX5_real 269 = .ok (.iastore, 1) := by decide +kernel
theorem d_X5_real_270 : decode cX5_real 270 = .ok (.iinc 10 1, 3) := by decide +kernel
theorem d_X5_real_273 : decode cX5_real 273 = .ok (.goto (-25), 3) := by decide +kernel
theorem d_X5_real_276 : decode cX5_real 276 = .ok (.aload_n 0, 1) := by decide +kernel
theorem d_X5_real_277 : decode cX5_real 277 = .ok (.iconst 0, 1) := by decide +kernel
theorem d_X5_real_278 : decode cX5_real 278 = .ok (.iload 7, 2) := by decide +kernel
theorem d_X5_real_280 : decode cX5_real 280 = .ok (.invokevirtual 126, 3) := by decide +kernel
theorem d_X5_real_283 : decode cX5_real 283 = .ok (.ireturn, 1) := by decide +kernel
theorem sg_X5_real_0 {L : Nat} {xs : Nat → Int32} {σ : ks_St} {mc ms : Nat} {P : ka_O → ks_St → Prop} {x1 : Int32} {x2 : Int32} {x3 : Int32} {x4 : Int32}  (k1 : ks_W L xs mX5_real rm_X5_real 2 [(0, .ref 17), (1, .int x1), (2, .int x2), (3, .int x3), (4, .int x4)] [.int x2, .ref 17] σ mc ms P) : ks_W L xs mX5_real rm_X5_real 0 [(0, .ref 17), (1, .int x1), (2, .int x2), (3, .int x3), (4, .int x4)] [] σ mc ms P := by
  refine ka_aload_n d_X5_real_0 rfl rfl 0 rfl ?_
  refine ka_iload_n d_X5_real_1 rfl rfl 2 rfl ?_
  exact k1
theorem cs_X5_real_2 {L : Nat} {xs : Nat → Int32} {σ : ks_St} {mc ms : Nat} {P : ka_O → ks_St → Prop} {f : Int32 → ks_St → Prop} {x1 : Int32} {x2 : Int32} {x3 : Int32} {x4 : Int32} {s1 : Int32} (hK : ks_M L xs mX5_isWord rm_X5_isWord [.ref 17, .int s1] σ (pi_ f)) (kr : ∀ r σ', f r σ' → ks_W L xs mX5_real rm_X5_real 5 [(0, .ref 17), (1, .int x1), (2, .int x2), (3, .int x3), (4, .int x4)] [.int r] σ' mc ms P) : ks_W L xs mX5_real rm_X5_real 2 [(0, .ref 17), (1, .int x1), (2, .int x2), (3, .int x3), (4, .int x4)] [.int s1, .ref 17] σ mc ms P := by
  refine ks_callV (q := 5) (o := 17) (ci := 5) (As := [.int s1]) (st := []) d_X5_real_2 rfl rfl (by decide) rfl rfl lk_X5_64 ⟨by decide, by decide⟩ (Nat.le_of_ble_eq_true rfl) ⟨Nat.le_refl _, Nat.le_refl _⟩ hK (fun v σ' hq => ?_) (fun E σ' hq => ?_)
  · obtain ⟨r, e, hf⟩ := hq; cases e; exact kr r σ' hf
  · obtain ⟨r, e, hf⟩ := hq; cases e
theorem sg_X5_real_5 {L : Nat} {xs : Nat → Int32} {σ : ks_St} {mc ms : Nat} {P : ka_O → ks_St → Prop} {x1 : Int32} {x2 : Int32} {x3 : Int32} {x4 : Int32} {s0 : Int32}  (k2 : (s0 = 0) → ks_W L xs mX5_real rm_X5_real 16 [(0, .ref 17), (1, .int x1), (2, .int x2), (3, .int x3), (4, .int x4)] [] σ mc ms P) (k3 : (¬ (s0 = 0)) → ks_W L xs mX5_real rm_X5_real 10 [(0, .ref 17), (1, .int x1), (2, .int x2), (3, .int x3), (4, .int x4)] [.int x3, .ref 17] σ mc ms P) : ks_W L xs mX5_real rm_X5_real 5 [(0, .ref 17), (1, .int x1), (2, .int x2), (3, .int x3), (4, .int x4)] [.int s0] σ mc ms P := by
  refine ka_if_eq (tgt := 16) d_X5_real_5 (by decide) rfl (fun c1 => ?_) (fun c1 => ?_)
  · exact (k2 c1)
  · refine ka_aload_n d_X5_real_8 rfl rfl 0 rfl ?_
    refine ka_iload_n d_X5_real_9 rfl rfl 3 rfl ?_
    exact (k3 c1)
theorem cs_X5_real_10 {L : Nat} {xs : Nat → Int32} {σ : ks_St} {mc ms : Nat} {P : ka_O → ks_St → Prop} {f : Int32 → ks_St → Prop} {x1 : Int32} {x2 : Int32} {x3 : Int32} {x4 : Int32} {s1 : Int32} (hK : ks_M L xs mX5_isWord rm_X5_isWord [.ref 17, .int s1] σ (pi_ f)) (kr : ∀ r σ', f r σ' → ks_W L xs mX5_real rm_X5_real 13 [(0, .ref 17), (1, .int x1), (2, .int x2), (3, .int x3), (4, .int x4)] [.int r] σ' mc ms P) : ks_W L xs mX5_real rm_X5_real 10 [(0, .ref 17), (1, .int x1), (2, .int x2), (3, .int x3), (4, .int x4)] [.int s1, .ref 17] σ mc ms P := by
  refine ks_callV (q := 13) (o := 17) (ci := 5) (As := [.int s1]) (st := []) d_X5_real_10 rfl rfl (by decide) rfl rfl lk_X5_64 ⟨by decide, by decide⟩ (Nat.le_of_ble_eq_true rfl) ⟨Nat.le_refl _, Nat.le_refl _⟩ hK (fun v σ' hq => ?_) (fun E σ' hq => ?_)
  · obtain ⟨r, e, hf⟩ := hq; cases e; exact kr r σ' hf
  · obtain ⟨r, e, hf⟩ := hq; cases e
theorem sg_X5_real_13 {L : Nat} {xs : Nat → Int32} {σ : ks_St} {mc ms : Nat} {P : ka_O → ks_St → Prop} {x1 : Int32} {x2 : Int32} {x3 : Int32} {x4 : Int32} {s0 : Int32}  (k2 : (¬ s0 = 0) → ks_W L xs mX5_real rm_X5_real 21 [(0, .ref 17), (1, .int x1), (2, .int x2), (3, .int x3), (4, .int x4)] [.int 0] σ mc ms P) (k3 : (s0 = 0) → ks_W L xs mX5_real rm_X5_real 16 [(0, .ref 17), (1, .int x1), (2, .int x2), (3, .int x3), (4, .int x4)] [] σ mc ms P) : ks_W L xs mX5_real rm_X5_real 13 [(0, .ref 17), (1, .int x1), (2, .int x2), (3, .int x3), (4, .int x4)] [.int s0] σ mc ms P := by
  refine ka_if_ne (tgt := 20) d_X5_real_13 (by decide) rfl (fun c1 => ?_) (fun c1 => ?_)
  · refine ka_iconst (v := 0) d_X5_real_20 rfl (by decide) ?_
    exact (k2 c1)
  · exact (k3 c1)
theorem sg_X5_real_16 {L : Nat} {xs : Nat → Int32} {σ : ks_St} {mc ms : Nat} {P : ka_O → ks_St → Prop} {x1 : Int32} {x2 : Int32} {x3 : Int32} {x4 : Int32}  (k1 : ks_W L xs mX5_real rm_X5_real 21 [(0, .ref 17), (1, .int x1), (2, .int x2), (3, .int x3), (4, .int x4)] [.int 1] σ mc ms P) : ks_W L xs mX5_real rm_X5_real 16 [(0, .ref 17), (1, .int x1), (2, .int x2), (3, .int x3), (4, .int x4)] [] σ mc ms P := by
  refine ka_iconst (v := 1) d_X5_real_16 rfl (by decide) ?_
  refine ka_goto (q := 21) d_X5_real_17 (by decide) ?_
  exact k1
theorem sg_X5_real_21 {L : Nat} {xs : Nat → Int32} {σ : ks_St} {mc ms : Nat} {P : ka_O → ks_St → Prop} {x1 : Int32} {x2 : Int32} {x3 : Int32} {x4 : Int32} {s0 : Int32}  (k2 : (¬ s0 = 0) → ks_W L xs mX5_real rm_X5_real 96 [(0, .ref 17), (1, .int x1), (2, .int x2), (3, .int x3), (4, .int x4), (5, .int s0)] [] σ mc ms P) (k4 : (s0 = 0) → (x1 < 0) → ks_W L xs mX5_real rm_X5_real 96 [(0, .ref 17), (1, .int x1), (2, .int x2), (3, .int x3), (4, .int x4), (5, .int s0)] [] σ mc ms P) (k6 : (s0 = 0) → (¬ (x1 < 0)) → (3 < x1) → ks_W L xs mX5_real rm_X5_real 96 [(0, .ref 17), (1, .int x1), (2, .int x2), (3, .int x3), (4, .int x4), (5, .int s0)] [] σ mc ms P) (k8 : (s0 = 0) → (¬ (x1 < 0)) → (¬ (3 < x1)) → (x4 < 0) → ks_W L xs mX5_real rm_X5_real 96 [(0, .ref 17), (1, .int x1), (2, .int x2), (3, .int x3), (4, .int x4), (5, .int s0)] [] σ mc ms P) (k10 : (s0 = 0) → (¬ (x1 < 0)) → (¬ (3 < x1)) → (¬ (x4 < 0)) → (4 < x4) → ks_W L xs mX5_real rm_X5_real 96 [(0, .ref 17), (1, .int x1), (2, .int x2), (3, .int x3), (4, .int x4), (5, .int s0)] [] σ mc ms P) (v11 : (s0 = 0) → (¬ (x1 < 0)) → (¬ (3 < x1)) → (¬ (x4 < 0)) → (¬ (4 < x4)) → vp_in x2 600) (v12 : (s0 = 0) → (¬ (x1 < 0)) → (¬ (3 < x1)) → (¬ (x4 < 0)) → (¬ (4 < x4)) → vp_in x3 600) (k14 : (s0 = 0) → (¬ (x1 < 0)) → (¬ (3 < x1)) → (¬ (x4 < 0)) → (¬ (4 < x4)) → (¬ (sf_ σ 18 x2.toNatClampNeg) = (sf_ σ 18 x3.toNatClampNeg)) → ks_W L xs mX5_real rm_X5_real 96 [(0, .ref 17), (1, .int x1), (2, .int x2), (3, .int x3), (4, .int x4), (5, .int s0)] [] σ mc ms P) (v15 : (s0 = 0) → (¬ (x1 < 0)) → (¬ (3 < x1)) → (¬ (x4 < 0)) → (¬ (4 < x4)) → ((sf_ σ 18 x2.toNatClampNeg) = (sf_ σ 18 x3.toNatClampNeg)) → vp_in x2 600) (k17 : (s0 = 0) → (¬ (x1 < 0)) → (¬ (3 < x1)) → (¬ (x4 < 0)) → (¬ (4 < x4)) → ((sf_ σ 18 x2.toNatClampNeg) = (sf_ σ 18 x3.toNatClampNeg)) → ((sf_ σ 18 x2.toNatClampNeg) = 8) → ks_W L xs mX5_real rm_X5_real 100 [(0, .ref 17), (1, .int x1), (2, .int x2), (3, .int x3), (4, .int x4), (5, .int s0)] [] σ mc ms P) (v18 : (s0 = 0) → (¬ (x1 < 0)) → (¬ (3 < x1)) → (¬ (x4 < 0)) → (¬ (4 < x4)) → ((sf_ σ 18 x2.toNatClampNeg) = (sf_ σ 18 x3.toNatClampNeg)) → (¬ ((sf_ σ 18 x2.toNatClampNeg) = 8)) → vp_in x2 600) (k20 : (s0 = 0) → (¬ (x1 < 0)) → (¬ (3 < x1)) → (¬ (x4 < 0)) → (¬ (4 < x4)) → ((sf_ σ 18 x2.toNatClampNeg) = (sf_ σ 18 x3.toNatClampNeg)) → (¬ ((sf_ σ 18 x2.toNatClampNeg) = 8)) → ((sf_ σ 18 x2.toNatClampNeg) = 16) → ks_W L xs mX5_real rm_X5_real 100 [(0, .ref 17), (1, .int x1), (2, .int x2), (3, .int x3), (4, .int x4), (5, .int s0)] [] σ mc ms P) (v21 : (s0 = 0) → (¬ (x1 < 0)) → (¬ (3 < x1)) → (¬ (x4 < 0)) → (¬ (4 < x4)) → ((sf_ σ 18 x2.toNatClampNeg) = (sf_ σ 18 x3.toNatClampNeg)) → (¬ ((sf_ σ 18 x2.toNatClampNeg) = 8)) → (¬ ((sf_ σ 18 x2.toNatClampNeg) = 16)) → vp_in x2 600) (k23 : (s0 = 0) → (¬ (x1 < 0)) → (¬ (3 < x1)) → (¬ (x4 < 0)) → (¬ (4 < x4)) → ((sf_ σ 18 x2.toNatClampNeg) = (sf_ σ 18 x3.toNatClampNeg)) → (¬ ((sf_ σ 18 x2.toNatClampNeg) = 8)) → (¬ ((sf_ σ 18 x2.toNatClampNeg) = 16)) → ((sf_ σ 18 x2.toNatClampNeg) = 32) → ks_W L xs mX5_real rm_X5_real 100 [(0, .ref 17), (1, .int x1), (2, .int x2), (3, .int x3), (4, .int x4), (5, .int s0)] [] σ mc ms P) (k24 : (s0 = 0) → (¬ (x1 < 0)) → (¬ (3 < x1)) → (¬ (x4 < 0)) → (¬ (4 < x4)) → ((sf_ σ 18 x2.toNatClampNeg) = (sf_ σ 18 x3.toNatClampNeg)) → (¬ ((sf_ σ 18 x2.toNatClampNeg) = 8)) → (¬ ((sf_ σ 18 x2.toNatClampNeg) = 16)) → (¬ ((sf_ σ 18 x2.toNatClampNeg) = 32)) → ks_W L xs mX5_real rm_X5_real 96 [(0, .ref 17), (1, .int x1), (2, .int x2), (3, .int x3), (4, .int x4), (5, .int s0)] [] σ mc ms P) : ks_W L xs mX5_real rm_X5_real 21 [(0, .ref 17), (1, .int x1), (2, .int x2), (3, .int x3), (4, .int x4)] [.int s0] σ mc ms P := by
  refine ka_istore (ls' := [(5, .int s0), (0, .ref 17), (1, .int x1), (2, .int x2), (3, .int x3), (4, .int x4)]) d_X5_real_21 rfl (by decide) rfl ?_
  refine ka_iload d_X5_real_23 rfl 0 rfl ?_
  refine ka_if_ne (tgt := 96) d_X5_real_25 (by decide) rfl (fun c1 => ?_) (fun c1 => ?_)
  · refine ka_sub [1, 2, 3, 4, 5, 0] rfl ?_
    exact (k2 c1)
  · refine ka_iload_n d_X5_real_28 rfl rfl 2 rfl ?_
    refine ka_if_lt (tgt := 96) d_X5_real_29 (by decide) rfl (fun c3 => ?_) (fun c3 => ?_)
    · refine ka_sub [1, 2, 3, 4, 5, 0] rfl ?_
      exact (k4 c1 c3)
    · refine ka_iload_n d_X5_real_32 rfl rfl 2 rfl ?_
      refine ka_iconst (v := 3) d_X5_real_33 rfl (by decide) ?_
      refine ka_icmp_gt (tgt := 96) d_X5_real_34 (by decide) rfl (fun c5 => ?_) (fun c5 => ?_)
      · refine ka_sub [1, 2, 3, 4, 5, 0] rfl ?_
        exact (k6 c1 c3 c5)
      · refine ka_iload d_X5_real_37 rfl 5 rfl ?_
        refine ka_if_lt (tgt := 96) d_X5_real_39 (by decide) rfl (fun c7 => ?_) (fun c7 => ?_)
        · refine ka_sub [1, 2, 3, 4, 5, 0] rfl ?_
          exact (k8 c1 c3 c5 c7)
        · refine ka_iload d_X5_real_42 rfl 5 rfl ?_
          refine ka_iconst (v := 4) d_X5_real_44 rfl (by decide) ?_
          refine ka_icmp_gt (tgt := 96) d_X5_real_45 (by decide) rfl (fun c9 => ?_) (fun c9 => ?_)
          · refine ka_sub [1, 2, 3, 4, 5, 0] rfl ?_
            exact (k10 c1 c3 c5 c7 c9)
          · refine ka_aload_n d_X5_real_48 rfl rfl 1 rfl ?_
            refine gf_X5_3 d_X5_real_49 rfl fl_X5_7 ?_
            refine ka_iload_n d_X5_real_52 rfl rfl 3 rfl ?_
            refine ks_iald row_18 d_X5_real_53 rfl (v11 c1 c3 c5 c7 c9) ?_
            refine ka_aload_n d_X5_real_54 rfl rfl 1 rfl ?_
            refine gf_X5_3 d_X5_real_55 rfl fl_X5_7 ?_
            refine ka_iload_n d_X5_real_58 rfl rfl 4 rfl ?_
            refine ks_iald row_18 d_X5_real_59 rfl (v12 c1 c3 c5 c7 c9) ?_
            refine ka_icmp_ne (tgt := 96) d_X5_real_60 (by decide) rfl (fun c13 => ?_) (fun c13 => ?_)
            · refine ka_sub [1, 2, 3, 4, 5, 0] rfl ?_
              exact (k14 c1 c3 c5 c7 c9 c13)
            · refine ka_aload_n d_X5_real_63 rfl rfl 1 rfl ?_
              refine gf_X5_3 d_X5_real_64 rfl fl_X5_7 ?_
              refine ka_iload_n d_X5_real_67 rfl rfl 3 rfl ?_
              refine ks_iald row_18 d_X5_real_68 rfl (v15 c1 c3 c5 c7 c9 c13) ?_
              refine ka_bipush (v := 8) d_X5_real_69 rfl (by decide) ?_
              refine ka_icmp_eq (tgt := 100) d_X5_real_71 (by decide) rfl (fun c16 => ?_) (fun c16 => ?_)
              · refine ka_sub [1, 2, 3, 4, 5, 0] rfl ?_
                exact (k17 c1 c3 c5 c7 c9 c13 c16)
              · refine ka_aload_n d_X5_real_74 rfl rfl 1 rfl ?_
                refine gf_X5_3 d_X5_real_75 rfl fl_X5_7 ?_
                refine ka_iload_n d_X5_real_78 rfl rfl 3 rfl ?_
                refine ks_iald row_18 d_X5_real_79 rfl (v18 c1 c3 c5 c7 c9 c13 c16) ?_
                refine ka_bipush (v := 16) d_X5_real_80 rfl (by decide) ?_
                refine ka_icmp_eq (tgt := 100) d_X5_real_82 (by decide) rfl (fun c19 => ?_) (fun c19 => ?_)
                · refine ka_sub [1, 2, 3, 4, 5, 0] rfl ?_
                  exact (k20 c1 c3 c5 c7 c9 c13 c16 c19)
                · refine ka_aload_n d_X5_real_85 rfl rfl 1 rfl ?_
                  refine gf_X5_3 d_X5_real_86 rfl fl_X5_7 ?_
                  refine ka_iload_n d_X5_real_89 rfl rfl 3 rfl ?_
                  refine ks_iald row_18 d_X5_real_90 rfl (v21 c1 c3 c5 c7 c9 c13 c16 c19) ?_
                  refine ka_bipush (v := 32) d_X5_real_91 rfl (by decide) ?_
                  refine ka_icmp_eq (tgt := 100) d_X5_real_93 (by decide) rfl (fun c22 => ?_) (fun c22 => ?_)
                  · refine ka_sub [1, 2, 3, 4, 5, 0] rfl ?_
                    exact (k23 c1 c3 c5 c7 c9 c13 c16 c19 c22)
                  · refine ka_sub [1, 2, 3, 4, 5, 0] rfl ?_
                    exact (k24 c1 c3 c5 c7 c9 c13 c16 c19 c22)
theorem sg_X5_real_96 {L : Nat} {xs : Nat → Int32} {σ : ks_St} {mc ms : Nat} {P : ka_O → ks_St → Prop} {x1 : Int32} {x2 : Int32} {x3 : Int32} {x4 : Int32} {x5 : Int32}  (k1 : ks_W L xs mX5_real rm_X5_real 101 [(0, .ref 17), (1, .int x1), (2, .int x2), (3, .int x3), (4, .int x4), (5, .int x5)] [.int 1] σ mc ms P) : ks_W L xs mX5_real rm_X5_real 96 [(0, .ref 17), (1, .int x1), (2, .int x2), (3, .int x3), (4, .int x4), (5, .int x5)] [] σ mc ms P := by
  refine ka_iconst (v := 1) d_X5_real_96 rfl (by decide) ?_
  refine ka_goto (q := 101) d_X5_real_97 (by decide) ?_
  exact k1
theorem sg_X5_real_100 {L : Nat} {xs : Nat → Int32} {σ : ks_St} {mc ms : Nat} {P : ka_O → ks_St → Prop} {x1 : Int32} {x2 : Int32} {x3 : Int32} {x4 : Int32} {x5 : Int32}  (k1 : ks_W L xs mX5_real rm_X5_real 101 [(0, .ref 17), (1, .int x1), (2, .int x2), (3, .int x3), (4, .int x4), (5, .int x5)] [.int 0] σ mc ms P) : ks_W L xs mX5_real rm_X5_real 100 [(0, .ref 17), (1, .int x1), (2, .int x2), (3, .int x3), (4, .int x4), (5, .int x5)] [] σ mc ms P := by
  refine ka_iconst (v := 0) d_X5_real_100 rfl (by decide) ?_
  exact k1
theorem sg_X5_real_101 {L : Nat} {xs : Nat → Int32} {σ : ks_St} {mc ms : Nat} {P : ka_O → ks_St → Prop} {x1 : Int32} {x2 : Int32} {x3 : Int32} {x4 : Int32} {x5 : Int32} {s0 : Int32}  (k2 : (¬ (si_ σ 16) = 600) → ks_W L xs mX5_real rm_X5_real 123 [(0, .ref 17), (1, .int x1), (2, .int x2), (3, .int x3), (4, .int x4)] [.int 0, .int s0, .int x5, .ref 17] σ mc ms P) (k3 : ((si_ σ 16) = 600) → ks_W L xs mX5_real rm_X5_real 123 [(0, .ref 17), (1, .int x1), (2, .int x2), (3, .int x3), (4, .int x4)] [.int 1, .int s0, .int x5, .ref 17] σ mc ms P) : ks_W L xs mX5_real rm_X5_real 101 [(0, .ref 17), (1, .int x1), (2, .int x2), (3, .int x3), (4, .int x4), (5, .int x5)] [.int s0] σ mc ms P := by
  refine ka_istore (ls' := [(6, .int s0), (0, .ref 17), (1, .int x1), (2, .int x2), (3, .int x3), (4, .int x4), (5, .int x5)]) d_X5_real_101 rfl (by decide) rfl ?_
  refine ka_aload_n d_X5_real_103 rfl rfl 1 rfl ?_
  refine ka_iload d_X5_real_104 rfl 6 rfl ?_
  refine ka_iload d_X5_real_106 rfl 0 rfl ?_
  refine ka_aload_n d_X5_real_108 rfl rfl 1 rfl ?_
  refine gf_X5_2 d_X5_real_109 rfl fl_X5_53 ?_
  refine ka_sipush (v := 600) d_X5_real_112 rfl (by decide) ?_
  refine ka_icmp_ne (tgt := 122) d_X5_real_115 (by decide) rfl (fun c1 => ?_) (fun c1 => ?_)
  · refine ka_iconst (v := 0) d_X5_real_122 rfl (by decide) ?_
    refine ka_sub [1, 2, 3, 4, 5] rfl ?_
    exact (k2 c1)
  · refine ka_iconst (v := 1) d_X5_real_118 rfl (by decide) ?_
    refine ka_goto (q := 123) d_X5_real_119 (by decide) ?_
    refine ka_sub [1, 2, 3, 4, 5] rfl ?_
    exact (k3 c1)
theorem sg_X5_real_123 {L : Nat} {xs : Nat → Int32} {σ : ks_St} {mc ms : Nat} {P : ka_O → ks_St → Prop} {x1 : Int32} {x2 : Int32} {x3 : Int32} {x4 : Int32} {s1 : Int32} {s2 : Int32} {s3 : Int32}  (k1 : ks_W L xs mX5_real rm_X5_real 124 [(0, .ref 17), (1, .int x1), (2, .int x2), (3, .int x3), (4, .int x4)] [.int 0, .int s3, .int s2, .int s1, .ref 17] σ mc ms P) : ks_W L xs mX5_real rm_X5_real 123 [(0, .ref 17), (1, .int x1), (2, .int x2), (3, .int x3), (4, .int x4)] [.int s3, .int s2, .int s1, .ref 17] σ mc ms P := by
  refine ka_iconst (v := 0) d_X5_real_123 rfl (by decide) ?_
  exact k1
theorem cs_X5_real_124 {L : Nat} {xs : Nat → Int32} {σ : ks_St} {mc ms : Nat} {P : ka_O → ks_St → Prop} {f : Int32 → ks_St → Prop} {x1 : Int32} {x2 : Int32} {x3 : Int32} {x4 : Int32} {s1 : Int32} {s2 : Int32} {s3 : Int32} {s4 : Int32} (hK : ks_M L xs mX5_throwing rm_X5_throwing [.ref 17, .int s1, .int s2, .int s3, .int s4] σ (pi_ f)) (kr : ∀ r σ', f r σ' → ks_W L xs mX5_real rm_X5_real 127 [(0, .ref 17), (1, .int x1), (2, .int x2), (3, .int x3), (4, .int x4)] [.int r] σ' mc ms P) : ks_W L xs mX5_real rm_X5_real 124 [(0, .ref 17), (1, .int x1), (2, .int x2), (3, .int x3), (4, .int x4)] [.int s4, .int s3, .int s2, .int s1, .ref 17] σ mc ms P := by
  refine ks_callV (q := 127) (o := 17) (ci := 5) (As := [.int s1, .int s2, .int s3, .int s4]) (st := []) d_X5_real_124 rfl rfl (by decide) rfl rfl lk_X5_56 ⟨by decide, by decide⟩ (Nat.le_of_ble_eq_true rfl) ⟨Nat.le_refl _, Nat.le_refl _⟩ hK (fun v σ' hq => ?_) (fun E σ' hq => ?_)
  · obtain ⟨r, e, hf⟩ := hq; cases e; exact kr r σ' hf
  · obtain ⟨r, e, hf⟩ := hq; cases e
theorem sg_X5_real_127 {L : Nat} {xs : Nat → Int32} {σ : ks_St} {mc ms : Nat} {P : ka_O → ks_St → Prop} {x1 : Int32} {x2 : Int32} {x3 : Int32} {x4 : Int32} {s0 : Int32}  (v2 : (s0 = 0) → vp_in x2 600) (k3 : (s0 = 0) → ks_W L xs mX5_real rm_X5_real 144 [(0, .ref 17), (1, .int x1), (3, .int x3), (4, .int x4), (7, .int (sf_ σ 18 x2.toNatClampNeg))] [.int 0, .int x2, .int 0, .ref 17] σ mc ms P) (r4 : (¬ (s0 = 0)) → P (.inl (some (.int 0))) σ) : ks_W L xs mX5_real rm_X5_real 127 [(0, .ref 17), (1, .int x1), (2, .int x2), (3, .int x3), (4, .int x4)] [.int s0] σ mc ms P := by
  refine ka_if_eq (tgt := 132) d_X5_real_127 (by decide) rfl (fun c1 => ?_) (fun c1 => ?_)
  · refine ka_aload_n d_X5_real_132 rfl rfl 0 rfl ?_
    refine gf_X5_3 d_X5_real_133 rfl fl_X5_7 ?_
    refine ka_iload_n d_X5_real_136 rfl rfl 2 rfl ?_
    refine ks_iald row_18 d_X5_real_137 rfl (v2 c1) ?_
    refine ka_istore (ls' := [(7, .int (sf_ σ 18 x2.toNatClampNeg)), (0, .ref 17), (1, .int x1), (2, .int x2), (3, .int x3), (4, .int x4)]) d_X5_real_138 rfl (by decide) rfl ?_
    refine ka_aload_n d_X5_real_140 rfl rfl 1 rfl ?_
    refine ka_iconst (v := 0) d_X5_real_141 rfl (by decide) ?_
    refine ka_iload_n d_X5_real_142 rfl rfl 3 rfl ?_
    refine ka_iconst (v := 0) d_X5_real_143 rfl (by decide) ?_
    refine ka_sub [1, 2, 4, 5, 0] rfl ?_
    exact (k3 c1)
  · refine ka_iconst (v := 0) d_X5_real_130 rfl (by decide) ?_
    exact ks_iret (ty := .int) d_X5_real_131 rfl rfl (r4 c1)
theorem cs_X5_real_144 {L : Nat} {xs : Nat → Int32} {σ : ks_St} {mc ms : Nat} {P : ka_O → ks_St → Prop} {f : ks_St → Prop} {x1 : Int32} {x3 : Int32} {x4 : Int32} {x7 : Int32} {s1 : Int32} {s2 : Int32} {s3 : Int32} (hK : ks_M L xs mX5_take rm_X5_take [.ref 17, .int s1, .int s2, .int s3] σ (pv_ f)) (kr : ∀ σ', f σ' → ks_W L xs mX5_real rm_X5_real 147 [(0, .ref 17), (1, .int x1), (3, .int x3), (4, .int x4), (7, .int x7)] [] σ' mc ms P) : ks_W L xs mX5_real rm_X5_real 144 [(0, .ref 17), (1, .int x1), (3, .int x3), (4, .int x4), (7, .int x7)] [.int s3, .int s2, .int s1, .ref 17] σ mc ms P := by
  refine ks_callV (q := 147) (o := 17) (ci := 5) (As := [.int s1, .int s2, .int s3]) (st := []) d_X5_real_144 rfl rfl (by decide) rfl rfl lk_X5_172 ⟨by decide, by decide⟩ (Nat.le_of_ble_eq_true rfl) ⟨Nat.le_refl _, Nat.le_refl _⟩ hK (fun v σ' hq => ?_) (fun E σ' hq => ?_)
  · obtain ⟨e, hf⟩ := hq; cases e; exact kr σ' hf
  · obtain ⟨e, hf⟩ := hq; cases e
theorem sg_X5_real_147 {L : Nat} {xs : Nat → Int32} {σ : ks_St} {mc ms : Nat} {P : ka_O → ks_St → Prop} {x1 : Int32} {x3 : Int32} {x4 : Int32} {x7 : Int32}  (k2 : (¬ x1 = 1) → ks_W L xs mX5_real rm_X5_real 160 [(0, .ref 17), (1, .int x1), (4, .int x4), (7, .int x7)] [.int 0, .int x3, .int 1, .ref 17] σ mc ms P) (k3 : (x1 = 1) → ks_W L xs mX5_real rm_X5_real 160 [(0, .ref 17), (1, .int x1), (4, .int x4), (7, .int x7)] [.int 1, .int x3, .int 1, .ref 17] σ mc ms P) : ks_W L xs mX5_real rm_X5_real 147 [(0, .ref 17), (1, .int x1), (3, .int x3), (4, .int x4), (7, .int x7)] [] σ mc ms P := by
  refine ka_aload_n d_X5_real_147 rfl rfl 0 rfl ?_
  refine ka_iconst (v := 1) d_X5_real_148 rfl (by decide) ?_
  refine ka_iload_n d_X5_real_149 rfl rfl 2 rfl ?_
  refine ka_iload_n d_X5_real_150 rfl rfl 1 rfl ?_
  refine ka_iconst (v := 1) d_X5_real_151 rfl (by decide) ?_
  refine ka_icmp_ne (tgt := 159) d_X5_real_152 (by decide) rfl (fun c1 => ?_) (fun c1 => ?_)
  · refine ka_iconst (v := 0) d_X5_real_159 rfl (by decide) ?_
    refine ka_sub [0, 1, 3, 4] rfl ?_
    exact (k2 c1)
  · refine ka_iconst (v := 1) d_X5_real_155 rfl (by decide) ?_
    refine ka_goto (q := 160) d_X5_real_156 (by decide) ?_
    refine ka_sub [0, 1, 3, 4] rfl ?_
    exact (k3 c1)
theorem cs_X5_real_160 {L : Nat} {xs : Nat → Int32} {σ : ks_St} {mc ms : Nat} {P : ka_O → ks_St → Prop} {f : ks_St → Prop} {x1 : Int32} {x4 : Int32} {x7 : Int32} {s1 : Int32} {s2 : Int32} {s3 : Int32} (hK : ks_M L xs mX5_take rm_X5_take [.ref 17, .int s1, .int s2, .int s3] σ (pv_ f)) (kr : ∀ σ', f σ' → ks_W L xs mX5_real rm_X5_real 163 [(0, .ref 17), (1, .int x1), (4, .int x4), (7, .int x7)] [] σ' mc ms P) : ks_W L xs mX5_real rm_X5_real 160 [(0, .ref 17), (1, .int x1), (4, .int x4), (7, .int x7)] [.int s3, .int s2, .int s1, .ref 17] σ mc ms P := by
  refine ks_callV (q := 163) (o := 17) (ci := 5) (As := [.int s1, .int s2, .int s3]) (st := []) d_X5_real_160 rfl rfl (by decide) rfl rfl lk_X5_172 ⟨by decide, by decide⟩ (Nat.le_of_ble_eq_true rfl) ⟨Nat.le_refl _, Nat.le_refl _⟩ hK (fun v σ' hq => ?_) (fun E σ' hq => ?_)
  · obtain ⟨e, hf⟩ := hq; cases e; exact kr σ' hf
  · obtain ⟨e, hf⟩ := hq; cases e
theorem sg_X5_real_163 {L : Nat} {xs : Nat → Int32} {σ : ks_St} {mc ms : Nat} {P : ka_O → ks_St → Prop} {x1 : Int32} {x4 : Int32} {x7 : Int32}  (k2 : ((sf_ (ui_ σ 17 0) 25 (0 : Int32).toNatClampNeg) = 2) → ks_W L xs mX5_real rm_X5_real 191 [(0, .ref 17), (7, .int x7)] [] (ui_ σ 17 0) mc ms P) (k6 : (¬ ((sf_ (ui_ σ 17 0) 25 (0 : Int32).toNatClampNeg) = 2)) → (¬ (sf_ (ui_ σ 17 0) 25 (1 : Int32).toNatClampNeg) = 2) → (2 ≤ x1) → (¬ x1 = 2) → ks_W L xs mX5_real rm_X5_real 240 [(0, .ref 17), (7, .int x7)] [.int x4, .int x7, .ref 17] (ui_ σ 17 0) mc ms P) (k7 : (¬ ((sf_ (ui_ σ 17 0) 25 (0 : Int32).toNatClampNeg) = 2)) → (¬ (sf_ (ui_ σ 17 0) 25 (1 : Int32).toNatClampNeg) = 2) → (2 ≤ x1) → (x1 = 2) → ks_W L xs mX5_real rm_X5_real 229 [(0, .ref 17), (7, .int x7)] [.int x4, .int x7, .ref 17] (ui_ σ 17 0) mc ms P) (k8 : (¬ ((sf_ (ui_ σ 17 0) 25 (0 : Int32).toNatClampNeg) = 2)) → (¬ (sf_ (ui_ σ 17 0) 25 (1 : Int32).toNatClampNeg) = 2) → (¬ (2 ≤ x1)) → ks_W L xs mX5_real rm_X5_real 211 [(0, .ref 17), (7, .int x7)] [.int x4, .int x7, .ref 17] (ui_ σ 17 0) mc ms P) (k9 : (¬ ((sf_ (ui_ σ 17 0) 25 (0 : Int32).toNatClampNeg) = 2)) → ((sf_ (ui_ σ 17 0) 25 (1 : Int32).toNatClampNeg) = 2) → ks_W L xs mX5_real rm_X5_real 191 [(0, .ref 17), (7, .int x7)] [] (ui_ σ 17 0) mc ms P) : ks_W L xs mX5_real rm_X5_real 163 [(0, .ref 17), (1, .int x1), (4, .int x4), (7, .int x7)] [] σ mc ms P := by
  refine ka_aload_n d_X5_real_163 rfl rfl 0 rfl ?_
  refine ka_iconst (v := 0) d_X5_real_164 rfl (by decide) ?_
  refine pf_X5_6 d_X5_real_165 rfl fl_X5_142 ?_
  refine ka_lconst (v := 0) d_X5_real_168 rfl (by decide) ?_
  refine ka_lstore (ls' := [(8, .long 0), (0, .ref 17), (1, .int x1), (4, .int x4), (7, .int x7)]) d_X5_real_169 rfl (by decide) rfl ?_
  refine ka_aload_n d_X5_real_171 rfl rfl 1 rfl ?_
  refine gf_X5_11 d_X5_real_172 rfl fl_X5_33 ?_
  refine ka_iconst (v := 0) d_X5_real_175 rfl (by decide) ?_
  refine ks_iald row_25 d_X5_real_176 rfl (by unfold vp_in; decide) ?_
  refine ka_iconst (v := 2) d_X5_real_177 rfl (by decide) ?_
  refine ka_icmp_eq (tgt := 191) d_X5_real_178 (by decide) rfl (fun c1 => ?_) (fun c1 => ?_)
  · refine ka_sub [1, 4] rfl ?_
    exact (k2 c1)
  · refine ka_aload_n d_X5_real_181 rfl rfl 1 rfl ?_
    refine gf_X5_11 d_X5_real_182 rfl fl_X5_33 ?_
    refine ka_iconst (v := 1) d_X5_real_185 rfl (by decide) ?_
    refine ks_iald row_25 d_X5_real_186 rfl (by unfold vp_in; decide) ?_
    refine ka_iconst (v := 2) d_X5_real_187 rfl (by decide) ?_
    refine ka_icmp_ne (tgt := 201) d_X5_real_188 (by decide) rfl (fun c3 => ?_) (fun c3 => ?_)
    · refine ka_iload_n d_X5_real_201 rfl rfl 2 rfl ?_
      refine ka_iconst (v := 2) d_X5_real_202 rfl (by decide) ?_
      refine ka_icmp_ge (tgt := 219) d_X5_real_203 (by decide) rfl (fun c4 => ?_) (fun c4 => ?_)
      · refine ka_iload_n d_X5_real_219 rfl rfl 2 rfl ?_
        refine ka_iconst (v := 2) d_X5_real_220 rfl (by decide) ?_
        refine ka_icmp_ne (tgt := 235) d_X5_real_221 (by decide) rfl (fun c5 => ?_) (fun c5 => ?_)
        · refine ka_aload_n d_X5_real_235 rfl rfl 1 rfl ?_
          refine ka_iload d_X5_real_236 rfl 4 rfl ?_
          refine ka_iload d_X5_real_238 rfl 3 rfl ?_
          refine ka_sub [1, 4] rfl ?_
          exact (k6 c1 c3 c4 c5)
        · refine ka_aload_n d_X5_real_224 rfl rfl 1 rfl ?_
          refine ka_iload d_X5_real_225 rfl 4 rfl ?_
          refine ka_iload d_X5_real_227 rfl 3 rfl ?_
          refine ka_sub [1, 4] rfl ?_
          exact (k7 c1 c3 c4 c5)
      · refine ka_aload_n d_X5_real_206 rfl rfl 1 rfl ?_
        refine ka_iload d_X5_real_207 rfl 4 rfl ?_
        refine ka_iload d_X5_real_209 rfl 3 rfl ?_
        refine ka_sub [1, 4] rfl ?_
        exact (k8 c1 c3 c4)
    · refine ka_sub [1, 4] rfl ?_
      exact (k9 c1 c3)
theorem sg_X5_real_191 {L : Nat} {xs : Nat → Int32} {σ : ks_St} {mc ms : Nat} {P : ka_O → ks_St → Prop} {x7 : Int32}  (k1 : ks_W L xs mX5_real rm_X5_real 193 [(0, .ref 17), (7, .int x7)] [.int x7] σ mc ms P) : ks_W L xs mX5_real rm_X5_real 191 [(0, .ref 17), (7, .int x7)] [] σ mc ms P := by
  refine ka_iload d_X5_real_191 rfl 1 rfl ?_
  exact k1
theorem cs_X5_real_193 {L : Nat} {xs : Nat → Int32} {σ : ks_St} {mc ms : Nat} {P : ka_O → ks_St → Prop} {f : Int64 → ks_St → Prop} {x7 : Int32} {s0 : Int32} (hK : ks_M L xs mX5_none rm_X5_none [.int s0] σ (pl_ f)) (kr : ∀ r σ', f r σ' → ks_W L xs mX5_real rm_X5_real 196 [(0, .ref 17), (7, .int x7)] [.long r] σ' mc ms P) : ks_W L xs mX5_real rm_X5_real 193 [(0, .ref 17), (7, .int x7)] [.int s0] σ mc ms P := by
  refine ks_callS (q := 196) (As := [.int s0]) (st := []) d_X5_real_193 rfl rfl lk_X5_145 ⟨by decide, by decide⟩ (Nat.le_of_ble_eq_true rfl) ⟨Nat.le_refl _, Nat.le_refl _⟩ hK (fun v σ' hq => ?_) (fun E σ' hq => ?_)
  · obtain ⟨r, e, hf⟩ := hq; cases e; exact kr r σ' hf
  · obtain ⟨r, e, hf⟩ := hq; cases e
theorem sg_X5_real_196 {L : Nat} {xs : Nat → Int32} {σ : ks_St} {mc ms : Nat} {P : ka_O → ks_St → Prop} {x7 : Int32} {s0 : Int64}  (k1 : ks_W L xs mX5_real rm_X5_real 245 [(0, .ref 17), (7, .int x7), (8, .long s0)] [] σ mc ms P) : ks_W L xs mX5_real rm_X5_real 196 [(0, .ref 17), (7, .int x7)] [.long s0] σ mc ms P := by
  refine ka_lstore (ls' := [(8, .long s0), (0, .ref 17), (7, .int x7)]) d_X5_real_196 rfl (by decide) rfl ?_
  refine ka_goto (q := 245) d_X5_real_198 (by decide) ?_
  refine ka_sub [1, 2, 0] rfl ?_
  exact k1
theorem cs_X5_real_211 {L : Nat} {xs : Nat → Int32} {σ : ks_St} {mc ms : Nat} {P : ka_O → ks_St → Prop} {f : Int64 → ks_St → Prop} {x7 : Int32} {s1 : Int32} {s2 : Int32} (hK : ks_M L xs mX5_sum rm_X5_sum [.ref 17, .int s1, .int s2] σ (pl_ f)) (kr : ∀ r σ', f r σ' → ks_W L xs mX5_real rm_X5_real 214 [(0, .ref 17), (7, .int x7)] [.long r] σ' mc ms P) : ks_W L xs mX5_real rm_X5_real 211 [(0, .ref 17), (7, .int x7)] [.int s2, .int s1, .ref 17] σ mc ms P := by
  refine ks_callV (q := 214) (o := 17) (ci := 5) (As := [.int s1, .int s2]) (st := []) d_X5_real_211 rfl rfl (by decide) rfl rfl lk_X5_176 ⟨by decide, by decide⟩ (Nat.le_of_ble_eq_true rfl) ⟨Nat.le_refl _, Nat.le_refl _⟩ hK (fun v σ' hq => ?_) (fun E σ' hq => ?_)
  · obtain ⟨r, e, hf⟩ := hq; cases e; exact kr r σ' hf
  · obtain ⟨r, e, hf⟩ := hq; cases e
theorem sg_X5_real_214 {L : Nat} {xs : Nat → Int32} {σ : ks_St} {mc ms : Nat} {P : ka_O → ks_St → Prop} {x7 : Int32} {s0 : Int64}  (k1 : ks_W L xs mX5_real rm_X5_real 245 [(0, .ref 17), (7, .int x7), (8, .long s0)] [] σ mc ms P) : ks_W L xs mX5_real rm_X5_real 214 [(0, .ref 17), (7, .int x7)] [.long s0] σ mc ms P := by
  refine ka_lstore (ls' := [(8, .long s0), (0, .ref 17), (7, .int x7)]) d_X5_real_214 rfl (by decide) rfl ?_
  refine ka_goto (q := 245) d_X5_real_216 (by decide) ?_
  refine ka_sub [1, 2, 0] rfl ?_
  exact k1
theorem cs_X5_real_229 {L : Nat} {xs : Nat → Int32} {σ : ks_St} {mc ms : Nat} {P : ka_O → ks_St → Prop} {f : Int64 → ks_St → Prop} {x7 : Int32} {s1 : Int32} {s2 : Int32} (hK : ks_M L xs mX5_product rm_X5_product [.ref 17, .int s1, .int s2] σ (pl_ f)) (kr : ∀ r σ', f r σ' → ks_W L xs mX5_real rm_X5_real 232 [(0, .ref 17), (7, .int x7)] [.long r] σ' mc ms P) : ks_W L xs mX5_real rm_X5_real 229 [(0, .ref 17), (7, .int x7)] [.int s2, .int s1, .ref 17] σ mc ms P := by
  refine ks_callV (q := 232) (o := 17) (ci := 5) (As := [.int s1, .int s2]) (st := []) d_X5_real_229 rfl rfl (by decide) rfl rfl lk_X5_179 ⟨by decide, by decide⟩ (Nat.le_of_ble_eq_true rfl) ⟨Nat.le_refl _, Nat.le_refl _⟩ hK (fun v σ' hq => ?_) (fun E σ' hq => ?_)
  · obtain ⟨r, e, hf⟩ := hq; cases e; exact kr r σ' hf
  · obtain ⟨r, e, hf⟩ := hq; cases e
theorem sg_X5_real_232 {L : Nat} {xs : Nat → Int32} {σ : ks_St} {mc ms : Nat} {P : ka_O → ks_St → Prop} {x7 : Int32} {s0 : Int64}  (k1 : ks_W L xs mX5_real rm_X5_real 243 [(0, .ref 17), (7, .int x7)] [.long s0] σ mc ms P) : ks_W L xs mX5_real rm_X5_real 232 [(0, .ref 17), (7, .int x7)] [.long s0] σ mc ms P := by
  refine ka_goto (q := 243) d_X5_real_232 (by decide) ?_
  exact k1
theorem cs_X5_real_240 {L : Nat} {xs : Nat → Int32} {σ : ks_St} {mc ms : Nat} {P : ka_O → ks_St → Prop} {f : Int64 → ks_St → Prop} {x7 : Int32} {s1 : Int32} {s2 : Int32} (hK : ks_M L xs mX5_quotient rm_X5_quotient [.ref 17, .int s1, .int s2] σ (pl_ f)) (kr : ∀ r σ', f r σ' → ks_W L xs mX5_real rm_X5_real 243 [(0, .ref 17), (7, .int x7)] [.long r] σ' mc ms P) : ks_W L xs mX5_real rm_X5_real 240 [(0, .ref 17), (7, .int x7)] [.int s2, .int s1, .ref 17] σ mc ms P := by
  refine ks_callV (q := 243) (o := 17) (ci := 5) (As := [.int s1, .int s2]) (st := []) d_X5_real_240 rfl rfl (by decide) rfl rfl lk_X5_182 ⟨by decide, by decide⟩ (Nat.le_of_ble_eq_true rfl) ⟨Nat.le_refl _, Nat.le_refl _⟩ hK (fun v σ' hq => ?_) (fun E σ' hq => ?_)
  · obtain ⟨r, e, hf⟩ := hq; cases e; exact kr r σ' hf
  · obtain ⟨r, e, hf⟩ := hq; cases e
theorem sg_X5_real_243 {L : Nat} {xs : Nat → Int32} {σ : ks_St} {mc ms : Nat} {P : ka_O → ks_St → Prop} {x7 : Int32} {s0 : Int64}  (k1 : ks_W L xs mX5_real rm_X5_real 245 [(0, .ref 17), (7, .int x7), (8, .long s0)] [] σ mc ms P) : ks_W L xs mX5_real rm_X5_real 243 [(0, .ref 17), (7, .int x7)] [.long s0] σ mc ms P := by
  refine ka_lstore (ls' := [(8, .long s0), (0, .ref 17), (7, .int x7)]) d_X5_real_243 rfl (by decide) rfl ?_
  refine ka_sub [1, 2, 0] rfl ?_
  exact k1
theorem sg_X5_real_245 {L : Nat} {xs : Nat → Int32} {σ : ks_St} {mc ms : Nat} {P : ka_O → ks_St → Prop} {x7 : Int32} {x8 : Int64}  (k1 : ks_W L xs mX5_real rm_X5_real 248 [(0, .ref 17), (7, .int x7), (8, .long x8), (10, .int 0)] [] σ mc ms P) : ks_W L xs mX5_real rm_X5_real 245 [(0, .ref 17), (7, .int x7), (8, .long x8)] [] σ mc ms P := by
  refine ka_iconst (v := 0) d_X5_real_245 rfl (by decide) ?_
  refine ka_istore (ls' := [(10, .int 0), (0, .ref 17), (7, .int x7), (8, .long x8)]) d_X5_real_246 rfl (by decide) rfl ?_
  refine ka_sub [1, 2, 3, 0] rfl ?_
  exact k1
theorem sg_X5_real_248 {L : Nat} {xs : Nat → Int32} {σ : ks_St} {mc ms : Nat} {P : ka_O → ks_St → Prop} {x7 : Int32} {x8 : Int64} {x10 : Int32}  (k2 : (x7 ≤ x10) → ks_W L xs mX5_real rm_X5_real 280 [] [.int x7, .int 0, .ref 17] σ mc ms P) (v3 : (¬ (x7 ≤ x10)) → vp_in x10 1026) (k4 : (¬ (x7 ≤ x10)) → ks_W L xs mX5_real rm_X5_real 248 [(0, .ref 17), (7, .int x7), (8, .long x8), (10, .int (x10 + 1))] [] (uf_ σ 23 (upd (sf_ σ 23) x10.toNatClampNeg (((x8 >>> ((x10).toInt64 &&& 63)).toInt32) &&& 1))) mc ms P) : ks_W L xs mX5_real rm_X5_real 248 [(0, .ref 17), (7, .int x7), (8, .long x8), (10, .int x10)] [] σ mc ms P := by
  refine ka_iload d_X5_real_248 rfl 3 rfl ?_
  refine ka_iload d_X5_real_250 rfl 1 rfl ?_
  refine ka_icmp_ge (tgt := 276) d_X5_real_252 (by decide) rfl (fun c1 => ?_) (fun c1 => ?_)
  · refine ka_aload_n d_X5_real_276 rfl rfl 0 rfl ?_
    refine ka_iconst (v := 0) d_X5_real_277 rfl (by decide) ?_
    refine ka_iload d_X5_real_278 rfl 1 rfl ?_
    refine ka_sub [] rfl ?_
    exact (k2 c1)
  · refine ka_aload_n d_X5_real_255 rfl rfl 0 rfl ?_
    refine gf_X5_9 d_X5_real_256 rfl fl_X5_27 ?_
    refine ka_iload d_X5_real_259 rfl 3 rfl ?_
    refine ka_lload d_X5_real_261 rfl 2 rfl ?_
    refine ka_iload d_X5_real_263 rfl 3 rfl ?_
    refine ka_lshr d_X5_real_265 rfl ?_
    refine ka_l2i d_X5_real_266 rfl ?_
    refine ka_iconst (v := 1) d_X5_real_267 rfl (by decide) ?_
    refine ka_iand d_X5_real_268 rfl ?_
    refine ks_iast row_23 d_X5_real_269 rfl (v3 c1) ?_
    refine ka_iinc (g := 3) (v := x10 + 1) (ls' := [(10, .int (x10 + 1)), (0, .ref 17), (7, .int x7), (8, .long x8)]) d_X5_real_270 rfl rfl rfl (by decide) rfl ?_
    refine ka_goto (q := 248) d_X5_real_273 (by decide) ?_
    refine ka_sub [1, 2, 3, 0] rfl ?_
    exact (k4 c1)
theorem cs_X5_real_280 {L : Nat} {xs : Nat → Int32} {σ : ks_St} {mc ms : Nat} {P : ka_O → ks_St → Prop} {f : Int32 → ks_St → Prop} {s1 : Int32} {s2 : Int32} (hK : ks_M L xs mX5_keep rm_X5_keep [.ref 17, .int s1, .int s2] σ (pi_ f)) (kr : ∀ r σ', f r σ' → ks_W L xs mX5_real rm_X5_real 283 [] [.int r] σ' mc ms P) : ks_W L xs mX5_real rm_X5_real 280 [] [.int s2, .int s1, .ref 17] σ mc ms P := by
  refine ks_callV (q := 283) (o := 17) (ci := 5) (As := [.int s1, .int s2]) (st := []) d_X5_real_280 rfl rfl (by decide) rfl rfl lk_X5_126 ⟨by decide, by decide⟩ (Nat.le_of_ble_eq_true rfl) ⟨Nat.le_refl _, Nat.le_refl _⟩ hK (fun v σ' hq => ?_) (fun E σ' hq => ?_)
  · obtain ⟨r, e, hf⟩ := hq; cases e; exact kr r σ' hf
  · obtain ⟨r, e, hf⟩ := hq; cases e
theorem sg_X5_real_283 {L : Nat} {xs : Nat → Int32} {σ : ks_St} {mc ms : Nat} {P : ka_O → ks_St → Prop} {s0 : Int32}  (r1 : P (.inl (some (.int s0))) σ) : ks_W L xs mX5_real rm_X5_real 283 [] [.int s0] σ mc ms P := by
  exact ks_iret (ty := .int) d_X5_real_283 rfl rfl r1
theorem d_X5_flags_0 : decode cX5_flags 0 = .ok (.aload_n 0, 1) := by decide +kernel
theorem d_X5_flags_1 : decode cX5_flags 1 = .ok (.iconst 0, 1) := by decide +kernel
theorem d_X5_flags_2 : decode cX5_flags 2 = .ok (.putfield 50, 3) := by decide +kernel
theorem d_X5_flags_5 : decode cX5_flags 5 = .ok (.aload_n 0, 1) := by decide +kernel
theorem d_X5_flags_6 : decode cX5_flags 6 = .ok (.getfield 142, 3) := by decide +kernel
theorem d_X5_flags_9 : decode cX5_flags 9 = .ok (.ireturn, 1) := by decide +kernel
theorem sg_X5_flags_0 {L : Nat} {xs : Nat → Int32} {σ : ks_St} {mc ms : Nat} {P : ka_O → ks_St → Prop}   (r1 : P (.inl (some (.int (si_ (ui_ σ 14 0) 17)))) (ui_ σ 14 0)) : ks_W L xs mX5_flags rm_X5_flags 0 [(0, .ref 17)] [] σ mc ms P := by
  refine ka_aload_n d_X5_flags_0 rfl rfl 0 rfl ?_
  refine ka_iconst (v := 0) d_X5_flags_1 rfl (by decide) ?_
  refine pf_X5_0 d_X5_flags_2 rfl fl_X5_50 ?_
  refine ka_aload_n d_X5_flags_5 rfl rfl 0 rfl ?_
  refine gf_X5_6 d_X5_flags_6 rfl fl_X5_142 ?_
  exact ks_iret (ty := .int) d_X5_flags_9 rfl rfl r1
