theorem dL_refusesAny_65 : decode cL_refusesAny 65 = .ok (.invokevirtual 25, 3) := by decide +kernel
theorem dL_refusesAny_68 : decode cL_refusesAny 68 = .ok (.bipush (-2), 2) := by decide +kernel
theorem dL_refusesAny_70 : decode cL_refusesAny 70 = .ok (.if_icmp .ne 107, 3) := by decide +kernel
theorem dL_refusesAny_73 : decode cL_refusesAny 73 = .ok (.aload_n 0, 1) := by decide +kernel
theorem dL_refusesAny_74 : decode cL_refusesAny 74 = .ok (.iconst 1, 1) := by decide +kernel
theorem dL_refusesAny_75 : decode cL_refusesAny 75 = .ok (.lload 6, 2) := by decide +kernel
theorem dL_refusesAny_77 : decode cL_refusesAny 77 = .ok (.invokevirtual 25, 3) := by decide +kernel
theorem dL_refusesAny_80 : decode cL_refusesAny 80 = .ok (.bipush (-2), 2) := by decide +kernel
theorem dL_refusesAny_82 : decode cL_refusesAny 82 = .ok (.if_icmp .ne 95, 3) := by decide +kernel
theorem dL_refusesAny_85 : decode cL_refusesAny 85 = .ok (.aload_n 0, 1) := by decide +kernel
theorem dL_refusesAny_86 : decode cL_refusesAny 86 = .ok (.iload_n 2, 1) := by decide +kernel
theorem dL_refusesAny_87 : decode cL_refusesAny 87 = .ok (.iconst 0, 1) := by decide +kernel
theorem dL_refusesAny_88 : decode cL_refusesAny 88 = .ok (.invokevirtual 29, 3) := by decide +kernel
theorem dL_refusesAny_91 : decode cL_refusesAny 91 = .ok (.iconst (-1), 1) := by decide +kernel
theorem dL_refusesAny_92 : decode cL_refusesAny 92 = .ok (.if_icmp .ne 85, 3) := by decide +kernel
theorem dL_refusesAny_95 : decode cL_refusesAny 95 = .ok (.aload_n 0, 1) := by decide +kernel
theorem dL_refusesAny_96 : decode cL_refusesAny 96 = .ok (.iconst 0, 1) := by decide +kernel
theorem dL_refusesAny_97 : decode cL_refusesAny 97 = .ok (.iload_n 1, 1) := by decide +kernel
theorem dL_refusesAny_98 : decode cL_refusesAny 98 = .ok (.ifCond .ne 8, 3) := by decide +kernel
theorem dL_refusesAny_101 : decode cL_refusesAny 101 = .ok (.bipush 17, 2) := by decide +kernel
theorem dL_refusesAny_103 : decode cL_refusesAny 103 = .ok (.goto 4, 3) := by decide +kernel
theorem dL_refusesAny_106 : decode cL_refusesAny 106 = .ok (.iconst 0, 1) := by decide +kernel
theorem dL_refusesAny_107 : decode cL_refusesAny 107 = .ok (.invokevirtual 29, 3) := by decide +kernel
theorem dL_refusesAny_110 : decode cL_refusesAny 110 = .ok (.bipush (-2), 2) := by decide +kernel
theorem dL_refusesAny_112 : decode cL_refusesAny 112 = .ok (.if_icmp .ne 65, 3) := by decide +kernel
theorem dL_refusesAny_115 : decode cL_refusesAny 115 = .ok (.aload_n 0, 1) := by decide +kernel
theorem dL_refusesAny_116 : decode cL_refusesAny 116 = .ok (.iconst 0, 1) := by decide +kernel
theorem dL_refusesAny_117 : decode cL_refusesAny 117 = .ok (.bipush 16, 2) := by decide +kernel
theorem dL_refusesAny_119 : decode cL_refusesAny 119 = .ok (.invokevirtual 29, 3) := by decide +kernel
theorem dL_refusesAny_122 : decode cL_refusesAny 122 = .ok (.aload_n 0, 1) := by decide +kernel
theorem dL_refusesAny_123 : decode cL_refusesAny 123 = .ok (.iconst 0, 1) := by decide +kernel
theorem dL_refusesAny_124 : decode cL_refusesAny 124 = .ok (.invokevirtual 33, 3) := by decide +kernel
theorem dL_refusesAny_127 : decode cL_refusesAny 127 = .ok (.bipush 16, 2) := by decide +kernel
theorem dL_refusesAny_129 : decode cL_refusesAny 129 = .ok (.if_icmp .ge 8, 3) := by decide +kernel
theorem dL_refusesAny_132 : decode cL_refusesAny 132 = .ok (.bipush (-4), 2) := by decide +kernel
theorem dL_refusesAny_134 : decode cL_refusesAny 134 = .ok (.goto 4, 3) := by decide +kernel
theorem dL_refusesAny_137 : decode cL_refusesAny 137 = .ok (.iconst 0, 1) := by decide +kernel
theorem dL_refusesAny_138 : decode cL_refusesAny 138 = .ok (.if_icmp .ne 39, 3) := by decide +kernel
theorem dL_refusesAny_141 : decode cL_refusesAny 141 = .ok (.aload_n 0, 1) := by decide +kernel
theorem dL_refusesAny_142 : decode cL_refusesAny 142 = .ok (.iload_n 2, 1) := by decide +kernel
theorem dL_refusesAny_143 : decode cL_refusesAny 143 = .ok (.iconst 0, 1) := by decide +kernel
theorem dL_refusesAny_144 : decode cL_refusesAny 144 = .ok (.lload 4, 2) := by decide +kernel
theorem dL_refusesAny_146 : decode cL_refusesAny 146 = .ok (.invokevirtual 37, 3) := by decide +kernel
theorem dL_refusesAny_149 : decode cL_refusesAny 149 = .ok (.iconst (-1), 1) := by decide +kernel
theorem dL_refusesAny_150 : decode cL_refusesAny 150 = .ok (.if_icmp .ne 27, 3) := by decide +kernel
theorem dL_refusesAny_153 : decode cL_refusesAny 153 = .ok (.aload_n 0, 1) := by decide +kernel
theorem dL_refusesAny_154 : decode cL_refusesAny 154 = .ok (.iconst 0, 1) := by decide +kernel
theorem dL_refusesAny_155 : decode cL_refusesAny 155 = .ok (.iload_n 1, 1) := by decide +kernel
theorem dL_refusesAny_156 : decode cL_refusesAny 156 = .ok (.ifCond .ne 11, 3) := by decide +kernel
theorem dL_refusesAny_159 : decode cL_refusesAny 159 = .ok (.aload_n 0, 1) := by decide +kernel
theorem dL_refusesAny_160 : decode cL_refusesAny 160 = .ok (.iconst 0, 1) := by decide +kernel
theorem dL_refusesAny_161 : decode cL_refusesAny 161 = .ok (.invokevirtual 33, 3) := by decide +kernel
theorem dL_refusesAny_164 : decode cL_refusesAny 164 = .ok (.goto 4, 3) := by decide +kernel
theorem dL_refusesAny_167 : decode cL_refusesAny 167 = .ok (.iconst (-1), 1) := by decide +kernel
theorem dL_refusesAny_168 : decode cL_refusesAny 168 = .ok (.lload 4, 2) := by decide +kernel
theorem dL_refusesAny_170 : decode cL_refusesAny 170 = .ok (.invokevirtual 37, 3) := by decide +kernel
theorem dL_refusesAny_173 : decode cL_refusesAny 173 = .ok (.iconst (-1), 1) := by decide +kernel
theorem dL_refusesAny_174 : decode cL_refusesAny 174 = .ok (.if_icmp .eq 5, 3) := by decide +kernel
theorem dL_refusesAny_177 : decode cL_refusesAny 177 = .ok (.iconst 0, 1) := by decide +kernel
theorem dL_refusesAny_178 : decode cL_refusesAny 178 = .ok (.ireturn, 1) := by decide +kernel
theorem dL_refusesAny_179 : decode cL_refusesAny 179 = .ok (.aload_n 0, 1) := by decide +kernel
theorem dL_refusesAny_180 : decode cL_refusesAny 180 = .ok (.iload_n 2, 1) := by decide +kernel
theorem dL_refusesAny_181 : decode cL_refusesAny 181 = .ok (.invokevirtual 41, 3) := by decide +kernel
theorem dL_refusesAny_184 : decode cL_refusesAny 184 = .ok (.iconst (-1), 1) := by decide +kernel
theorem dL_refusesAny_185 : decode cL_refusesAny 185 = .ok (.if_icmp .ne 119, 3) := by decide +kernel
theorem dL_refusesAny_188 : decode cL_refusesAny 188 = .ok (.aload_n 0, 1) := by decide +kernel
theorem dL_refusesAny_189 : decode cL_refusesAny 189 = .ok (.iload_n 2, 1) := by decide +kernel
theorem dL_refusesAny_190 : decode cL_refusesAny 190 = .ok (.bipush 9, 2) := by decide +kernel
theorem dL_refusesAny_192 : decode cL_refusesAny 192 = .ok (.iconst 0, 1) := by decide +kernel
theorem dL_refusesAny_193 : decode cL_refusesAny 193 = .ok (.invokevirtual 44, 3) := by decide +kernel
theorem dL_refusesAny_196 : decode cL_refusesAny 196 = .ok (.iconst (-1), 1) := by decide +kernel
theorem dL_refusesAny_197 : decode cL_refusesAny 197 = .ok (.if_icmp .ne 107, 3) := by decide +kernel
theorem dL_refusesAny_200 : decode cL_refusesAny 200 = .ok (.aload_n 0, 1) := by decide +kernel
theorem dL_refusesAny_201 : decode cL_refusesAny 201 = .ok (.iconst 0, 1) := by decide +kernel
theorem dL_refusesAny_202 : decode cL_refusesAny 202 = .ok (.iload_n 1, 1) := by decide +kernel
theorem dL_refusesAny_203 : decode cL_refusesAny 203 = .ok (.ifCond .ne 7, 3) := by decide +kernel
theorem dL_refusesAny_206 : decode cL_refusesAny 206 = .ok (.iconst 5, 1) := by decide +kernel
theorem dL_refusesAny_207 : decode cL_refusesAny 207 = .ok (.goto 4, 3) := by decide +kernel
theorem dL_refusesAny_210 : decode cL_refusesAny 210 = .ok (.iconst (-1), 1) := by decide +kernel
theorem dL_refusesAny_211 : decode cL_refusesAny 211 = .ok (.iconst 1, 1) := by decide +kernel
theorem dL_refusesAny_212 : decode cL_refusesAny 212 = .ok (.invokevirtual 44, 3) := by decide +kernel
theorem dL_refusesAny_215 : decode cL_refusesAny 215 = .ok (.bipush (-2), 2) := by decide +kernel
theorem dL_refusesAny_217 : decode cL_refusesAny 217 = .ok (.if_icmp .ne 87, 3) := by decide +kernel
theorem dL_refusesAny_220 : decode cL_refusesAny 220 = .ok (.aload_n 0, 1) := by decide +kernel
theorem dL_refusesAny_221 : decode cL_refusesAny 221 = .ok (.iconst 0, 1) := by decide +kernel
theorem dL_refusesAny_222 : decode cL_refusesAny 222 = .ok (.iconst 0, 1) := by decide +kernel
theorem dL_refusesAny_223 : decode cL_refusesAny 223 = .ok (.iload_n 1, 1) := by decide +kernel
theorem dL_refusesAny_224 : decode cL_refusesAny 224 = .ok (.ifCond .ne 8, 3) := by decide +kernel
theorem dL_refusesAny_227 : decode cL_refusesAny 227 = .ok (.bipush 17, 2) := by decide +kernel
theorem dL_refusesAny_229 : decode cL_refusesAny 229 = .ok (.goto 4, 3) := by decide +kernel
theorem dL_refusesAny_232 : decode cL_refusesAny 232 = .ok (.iconst 0, 1) := by decide +kernel
theorem dL_refusesAny_233 : decode cL_refusesAny 233 = .ok (.invokevirtual 44, 3) := by decide +kernel
theorem dL_refusesAny_236 : decode cL_refusesAny 236 = .ok (.bipush (-2), 2) := by decide +kernel
theorem dL_refusesAny_238 : decode cL_refusesAny 238 = .ok (.if_icmp .ne 66, 3) := by decide +kernel
theorem dL_refusesAny_241 : decode cL_refusesAny 241 = .ok (.aload_n 0, 1) := by decide +kernel
theorem dL_refusesAny_242 : decode cL_refusesAny 242 = .ok (.iload_n 2, 1) := by decide +kernel
theorem dL_refusesAny_243 : decode cL_refusesAny 243 = .ok (.invokevirtual 48, 3) := by decide +kernel
theorem dL_refusesAny_246 : decode cL_refusesAny 246 = .ok (.iconst (-1), 1) := by decide +kernel
theorem dL_refusesAny_247 : decode cL_refusesAny 247 = .ok (.if_icmp .ne 57, 3) := by decide +kernel
theorem dL_refusesAny_250 : decode cL_refusesAny 250 = .ok (.aload_n 0, 1) := by decide +kernel
theorem dL_refusesAny_251 : decode cL_refusesAny 251 = .ok (.iload_n 2, 1) := by decide +kernel
theorem dL_refusesAny_252 : decode cL_refusesAny 252 = .ok (.invokevirtual 51, 3) := by decide +kernel
theorem dL_refusesAny_255 : decode cL_refusesAny 255 = .ok (.iconst (-1), 1) := by decide +kernel
theorem dL_refusesAny_256 : decode cL_refusesAny 256 = .ok (.if_icmp .ne 48, 3) := by decide +kernel
theorem dL_refusesAny_259 : decode cL_refusesAny 259 = .ok (.aload_n 0, 1) := by decide +kernel
theorem dL_refusesAny_260 : decode cL_refusesAny 260 = .ok (.iload_n 2, 1) := by decide +kernel
theorem dL_refusesAny_261 : decode cL_refusesAny 261 = .ok (.iconst 0, 1) := by decide +kernel
theorem dL_refusesAny_262 : decode cL_refusesAny 262 = .ok (.bipush 99, 2) := by decide +kernel
theorem dL_refusesAny_264 : decode cL_refusesAny 264 = .ok (.invokevirtual 54, 3) := by decide +kernel
theorem dL_refusesAny_267 : decode cL_refusesAny 267 = .ok (.iconst (-1), 1) := by decide +kernel
theorem dL_refusesAny_268 : decode cL_refusesAny 268 = .ok (.if_icmp .ne 36, 3) := by decide +kernel
theorem dL_refusesAny_271 : decode cL_refusesAny 271 = .ok (.aload_n 0, 1) := by decide +kernel
theorem dL_refusesAny_272 : decode cL_refusesAny 272 = .ok (.iconst 0, 1) := by decide +kernel
theorem dL_refusesAny_273 : decode cL_refusesAny 273 = .ok (.iload_n 3, 1) := by decide +kernel
theorem dL_refusesAny_274 : decode cL_refusesAny 274 = .ok (.bipush 99, 2) := by decide +kernel
theorem dL_refusesAny_276 : decode cL_refusesAny 276 = .ok (.invokevirtual 54, 3) := by decide +kernel
theorem dL_refusesAny_279 : decode cL_refusesAny 279 = .ok (.iconst (-1), 1) := by decide +kernel
theorem dL_refusesAny_280 : decode cL_refusesAny 280 = .ok (.if_icmp .ne 24, 3) := by decide +kernel
theorem dL_refusesAny_283 : decode cL_refusesAny 283 = .ok (.aload_n 0, 1) := by decide +kernel
theorem dL_refusesAny_284 : decode cL_refusesAny 284 = .ok (.iconst 0, 1) := by decide +kernel
theorem dL_refusesAny_285 : decode cL_refusesAny 285 = .ok (.iconst 0, 1) := by decide +kernel
theorem dL_refusesAny_286 : decode cL_refusesAny 286 = .ok (.iload_n 1, 1) := by decide +kernel
theorem dL_refusesAny_287 : decode cL_refusesAny 287 = .ok (.ifCond .ne 8, 3) := by decide +kernel
theorem dL_refusesAny_290 : decode cL_refusesAny 290 = .ok (.bipush 16, 2) := by decide +kernel
theorem dL_refusesAny_292 : decode cL_refusesAny 292 = .ok (.goto 4, 3) := by decide +kernel
theorem dL_refusesAny_295 : decode cL_refusesAny 295 = .ok (.iconst (-1), 1) := by decide +kernel
theorem dL_refusesAny_296 : decode cL_refusesAny 296 = .ok (.invokevirtual 54, 3) := by decide +kernel
theorem dL_refusesAny_299 : decode cL_refusesAny 299 = .ok (.bipush (-2), 2) := by decide +kernel
theorem dL_refusesAny_301 : decode cL_refusesAny 301 = .ok (.if_icmp .eq 5, 3) := by decide +kernel
theorem dL_refusesAny_304 : decode cL_refusesAny 304 = .ok (.iconst 0, 1) := by decide +kernel
theorem dL_refusesAny_305 : decode cL_refusesAny 305 = .ok (.ireturn, 1) := by decide +kernel
theorem dL_refusesAny_306 : decode cL_refusesAny 306 = .ok (.aload_n 0, 1) := by decide +kernel
theorem dL_refusesAny_307 : decode cL_refusesAny 307 = .ok (.iload_n 1, 1) := by decide +kernel
theorem dL_refusesAny_308 : decode cL_refusesAny 308 = .ok (.ifCond .ne 7, 3) := by decide +kernel
theorem dL_refusesAny_311 : decode cL_refusesAny 311 = .ok (.iconst 3, 1) := by decide +kernel
theorem dL_refusesAny_312 : decode cL_refusesAny 312 = .ok (.goto 4, 3) := by decide +kernel
theorem dL_refusesAny_315 : decode cL_refusesAny 315 = .ok (.iconst (-1), 1) := by decide +kernel
theorem dL_refusesAny_316 : decode cL_refusesAny 316 = .ok (.ldc2_w 57, 3) := by decide +kernel
theorem dL_refusesAny_319 : decode cL_refusesAny 319 = .ok (.invokevirtual 59, 3) := by decide +kernel
theorem dL_refusesAny_322 : decode cL_refusesAny 322 = .ok (.bipush (-2), 2) := by decide +kernel
theorem dL_refusesAny_324 : decode cL_refusesAny 324 = .ok (.if_icmp .ne 133, 3) := by decide +kernel
theorem dL_refusesAny_327 : decode cL_refusesAny 327 = .ok (.aload_n 0, 1) := by decide +kernel
theorem dL_refusesAny_328 : decode cL_refusesAny 328 = .ok (.iload_n 1, 1) := by decide +kernel
theorem dL_refusesAny_329 : decode cL_refusesAny 329 = .ok (.lload 4, 2) := by decide +kernel
theorem dL_refusesAny_331 : decode cL_refusesAny 331 = .ok (.invokevirtual 59, 3) := by decide +kernel
theorem dL_refusesAny_334 : decode cL_refusesAny 334 = .ok (.bipush (-2), 2) := by decide +kernel
theorem dL_refusesAny_336 : decode cL_refusesAny 336 = .ok (.if_icmp .ne 121, 3) := by decide +kernel
theorem dL_refusesAny_339 : decode cL_refusesAny 339 = .ok (.aload_n 0, 1) := by decide +kernel
theorem dL_refusesAny_340 : decode cL_refusesAny 340 = .ok (.iconst 0, 1) := by decide +kernel
theorem dL_refusesAny_341 : decode cL_refusesAny 341 = .ok (.iload_n 1, 1) := by decide +kernel
theorem dL_refusesAny_342 : decode cL_refusesAny 342 = .ok (.ifCond .ne 9, 3) := by decide +kernel
theorem dL_refusesAny_345 : decode cL_refusesAny 345 = .ok (.ldc2_w 62, 3) := by decide +kernel
theorem dL_refusesAny_348 : decode cL_refusesAny 348 = .ok (.goto 6, 3) := by decide +kernel
theorem dL_refusesAny_351 : decode cL_refusesAny 351 = .ok (.ldc2_w 64, 3) := by decide +kernel
theorem dL_refusesAny_354 : decode cL_refusesAny 354 = .ok (.invokevirtual 59, 3) := by decide +kernel
theorem dL_refusesAny_357 : decode cL_refusesAny 357 = .ok (.bipush (-2), 2) := by decide +kernel
theorem dL_refusesAny_359 : decode cL_refusesAny 359 = .ok (.if_icmp .ne 98, 3) := by decide +kernel
theorem dL_refusesAny_362 : decode cL_refusesAny 362 = .ok (.aload_n 0, 1) := by decide +kernel
theorem dL_refusesAny_363 : decode cL_refusesAny 363 = .ok (.iconst 1, 1) := by decide +kernel
theorem dL_refusesAny_364 : decode cL_refusesAny 364 = .ok (.iload_n 1, 1) := by decide +kernel
theorem dL_refusesAny_365 : decode cL_refusesAny 365 = .ok (.ifCond .ne 9, 3) := by decide +kernel
theorem dL_refusesAny_368 : decode cL_refusesAny 368 = .ok (.ldc2_w 57, 3) := by decide +kernel
theorem dL_refusesAny_371 : decode cL_refusesAny 371 = .ok (.goto 6, 3) := by decide +kernel
theorem dL_refusesAny_374 : decode cL_refusesAny 374 = .ok (.ldc2_w 66, 3) := by decide +kernel
theorem dL_refusesAny_377 : decode cL_refusesAny 377 = .ok (.invokevirtual 59, 3) := by decide +kernel
theorem dL_refusesAny_380 : decode cL_refusesAny 380 = .ok (.bipush (-2), 2) := by decide +kernel
theorem dL_refusesAny_382 : decode cL_refusesAny 382 = .ok (.if_icmp .ne 75, 3) := by decide +kernel
theorem dL_refusesAny_385 : decode cL_refusesAny 385 = .ok (.aload_n 0, 1) := by decide +kernel
theorem dL_refusesAny_386 : decode cL_refusesAny 386 = .ok (.iconst 2, 1) := by decide +kernel
theorem dL_refusesAny_387 : decode cL_refusesAny 387 = .ok (.iload_n 1, 1) := by decide +kernel
theorem dL_refusesAny_388 : decode cL_refusesAny 388 = .ok (.ifCond .ne 9, 3) := by decide +kernel
theorem dL_refusesAny_391 : decode cL_refusesAny 391 = .ok (.ldc2_w 62, 3) := by decide +kernel
theorem dL_refusesAny_394 : decode cL_refusesAny 394 = .ok (.goto 6, 3) := by decide +kernel
theorem dL_refusesAny_397 : decode cL_refusesAny 397 = .ok (.ldc2_w 57, 3) := by decide +kernel
theorem dL_refusesAny_400 : decode cL_refusesAny 400 = .ok (.invokevirtual 59, 3) := by decide +kernel
theorem dL_refusesAny_403 : decode cL_refusesAny 403 = .ok (.bipush (-2), 2) := by decide +kernel
theorem dL_refusesAny_405 : decode cL_refusesAny 405 = .ok (.if_icmp .ne 52, 3) := by decide +kernel
theorem dL_refusesAny_408 : decode cL_refusesAny 408 = .ok (.aload_n 0, 1) := by decide +kernel
theorem dL_refusesAny_409 : decode cL_refusesAny 409 = .ok (.iload_n 1, 1) := by decide +kernel
theorem dL_refusesAny_410 : decode cL_refusesAny 410 = .ok (.ifCond .ne 7, 3) := by decide +kernel
theorem dL_refusesAny_413 : decode cL_refusesAny 413 = .ok (.iconst 3, 1) := by decide +kernel
theorem dL_refusesAny_414 : decode cL_refusesAny 414 = .ok (.goto 4, 3) := by decide +kernel
theorem dL_refusesAny_417 : decode cL_refusesAny 417 = .ok (.iconst (-1), 1) := by decide +kernel
theorem dL_refusesAny_418 : decode cL_refusesAny 418 = .ok (.invokevirtual 68, 3) := by decide +kernel
theorem dL_refusesAny_421 : decode cL_refusesAny 421 = .ok (.aload_n 0, 1) := by decide +kernel
theorem dL_refusesAny_422 : decode cL_refusesAny 422 = .ok (.iload_n 1, 1) := by decide +kernel
theorem dL_refusesAny_423 : decode cL_refusesAny 423 = .ok (.ifCond .ne 7, 3) := by decide +kernel
theorem dL_refusesAny_426 : decode cL_refusesAny 426 = .ok (.iconst 3, 1) := by decide +kernel
theorem dL_refusesAny_427 : decode cL_refusesAny 427 = .ok (.goto 4, 3) := by decide +kernel
theorem dL_refusesAny_430 : decode cL_refusesAny 430 = .ok (.iconst (-1), 1) := by decide +kernel
theorem dL_refusesAny_431 : decode cL_refusesAny 431 = .ok (.invokevirtual 68, 3) := by decide +kernel
theorem dL_refusesAny_434 : decode cL_refusesAny 434 = .ok (.dcmp .l, 1) := by decide +kernel
theorem dL_refusesAny_435 : decode cL_refusesAny 435 = .ok (.ifCond .eq 22, 3) := by decide +kernel
theorem dL_refusesAny_438 : decode cL_refusesAny 438 = .ok (.aload_n 0, 1) := by decide +kernel
theorem dL_refusesAny_439 : decode cL_refusesAny 439 = .ok (.iload_n 1, 1) := by decide +kernel
theorem dL_refusesAny_440 : decode cL_refusesAny 440 = .ok (.ifCond .ne 8, 3) := by decide +kernel
theorem dL_refusesAny_443 : decode cL_refusesAny 443 = .ok (.bipush 6, 2) := by decide +kernel
theorem dL_refusesAny_445 : decode cL_refusesAny 445 = .ok (.goto 4, 3) := by decide +kernel
theorem dL_refusesAny_448 : decode cL_refusesAny 448 = .ok (.iconst (-1), 1) := by decide +kernel
theorem dL_refusesAny_449 : decode cL_refusesAny 449 = .ok (.invokevirtual 33, 3) := by decide +kernel
theorem dL_refusesAny_452 : decode cL_refusesAny 452 = .ok (.bipush (-2), 2) := by decide +kernel
theorem dL_refusesAny_454 : decode cL_refusesAny 454 = .ok (.if_icmp .eq 5, 3) := by decide +kernel
theorem dL_refusesAny_457 : decode cL_refusesAny 457 = .ok (.iconst 0, 1) := by decide +kernel
theorem dL_refusesAny_458 : decode cL_refusesAny 458 = .ok (.ireturn, 1) := by decide +kernel
theorem dL_refusesAny_459 : decode cL_refusesAny 459 = .ok (.aload_n 0, 1) := by decide +kernel
theorem dL_refusesAny_460 : decode cL_refusesAny 460 = .ok (.iload_n 2, 1) := by decide +kernel
theorem dL_refusesAny_461 : decode cL_refusesAny 461 = .ok (.iconst 0, 1) := by decide +kernel
theorem dL_refusesAny_462 : decode cL_refusesAny 462 = .ok (.invokestatic 72, 3) := by decide +kernel
theorem dL_refusesAny_465 : decode cL_refusesAny 465 = .ok (.ifCond .ne 146, 3) := by decide +kernel
theorem dL_refusesAny_468 : decode cL_refusesAny 468 = .ok (.aload_n 0, 1) := by decide +kernel
theorem dL_refusesAny_469 : decode cL_refusesAny 469 = .ok (.iconst 0, 1) := by decide +kernel
theorem dL_refusesAny_470 : decode cL_refusesAny 470 = .ok (.iload_n 1, 1) := by decide +kernel
theorem dL_refusesAny_471 : decode cL_refusesAny 471 = .ok (.ifCond .ne 11, 3) := by decide +kernel
theorem dL_refusesAny_474 : decode cL_refusesAny 474 = .ok (.aload_n 0, 1) := by decide +kernel
theorem dL_refusesAny_475 : decode cL_refusesAny 475 = .ok (.iconst 0, 1) := by decide +kernel
theorem dL_refusesAny_476 : decode cL_refusesAny 476 = .ok (.invokevirtual 33, 3) := by decide +kernel
theorem dL_refusesAny_479 : decode cL_refusesAny 479 = .ok (.goto 4, 3) := by decide +kernel
theorem dL_refusesAny_482 : decode cL_refusesAny 482 = .ok (.iconst (-1), 1) := by decide +kernel
theorem dL_refusesAny_483 : decode cL_refusesAny 483 = .ok (.invokestatic 72, 3) := by decide +kernel
theorem dL_refusesAny_486 : decode cL_refusesAny 486 = .ok (.ifCond .ne 125, 3) := by decide +kernel
theorem dL_refusesAny_489 : decode cL_refusesAny 489 = .ok (.aload_n 0, 1) := by decide +kernel
theorem dL_refusesAny_490 : decode cL_refusesAny 490 = .ok (.iload_n 2, 1) := by decide +kernel
theorem dL_refusesAny_491 : decode cL_refusesAny 491 = .ok (.iconst 0, 1) := by decide +kernel
theorem dL_refusesAny_492 : decode cL_refusesAny 492 = .ok (.iconst 0, 1) := by decide +kernel
theorem dL_refusesAny_493 : decode cL_refusesAny 493 = .ok (.iconst 0, 1) := by decide +kernel
theorem dL_refusesAny_494 : decode cL_refusesAny 494 = .ok (.invokevirtual 76, 3) := by decide +kernel
theorem dL_refusesAny_497 : decode cL_refusesAny 497 = .ok (.aload_n 0, 1) := by decide +kernel
theorem dL_refusesAny_498 : decode cL_refusesAny 498 = .ok (.iload_n 2, 1) := by decide +kernel
theorem dL_refusesAny_499 : decode cL_refusesAny 499 = .ok (.iconst 0, 1) := by decide +kernel
theorem dL_refusesAny_500 : decode cL_refusesAny 500 = .ok (.iconst 0, 1) := by decide +kernel
theorem dL_refusesAny_501 : decode cL_refusesAny 501 = .ok (.iconst 0, 1) := by decide +kernel
theorem dL_refusesAny_502 : decode cL_refusesAny 502 = .ok (.invokevirtual 76, 3) := by decide +kernel
theorem dL_refusesAny_505 : decode cL_refusesAny 505 = .ok (.dcmp .l, 1) := by decide +kernel
theorem dL_refusesAny_506 : decode cL_refusesAny 506 = .ok (.ifCond .eq 105, 3) := by decide +kernel
theorem dL_refusesAny_509 : decode cL_refusesAny 509 = .ok (.aload_n 0, 1) := by decide +kernel
theorem dL_refusesAny_510 : decode cL_refusesAny 510 = .ok (.iconst 0, 1) := by decide +kernel
theorem dL_refusesAny_511 : decode cL_refusesAny 511 = .ok (.iload_n 3, 1) := by decide +kernel
theorem dL_refusesAny_512 : decode cL_refusesAny 512 = .ok (.iconst 0, 1) := by decide +kernel
theorem dL_refusesAny_513 : decode cL_refusesAny 513 = .ok (.iconst 0, 1) := by decide +kernel
theorem dL_refusesAny_514 : decode cL_refusesAny 514 = .ok (.invokevirtual 76, 3) := by decide +kernel
theorem dL_refusesAny_517 : decode cL_refusesAny 517 = .ok (.aload_n 0, 1) := by decide +kernel
theorem dL_refusesAny_518 : decode cL_refusesAny 518 = .ok (.iconst 0, 1) := by decide +kernel
theorem dL_refusesAny_519 : decode cL_refusesAny 519 = .ok (.iload_n 3, 1) := by decide +kernel
theorem dL_refusesAny_520 : decode cL_refusesAny 520 = .ok (.iconst 0, 1) := by decide +kernel
theorem dL_refusesAny_521 : decode cL_refusesAny 521 = .ok (.iconst 0, 1) := by decide +kernel
theorem dL_refusesAny_522 : decode cL_refusesAny 522 = .ok (.invokevirtual 76, 3) := by decide +kernel
theorem dL_refusesAny_525 : decode cL_refusesAny 525 = .ok (.dcmp .l, 1) := by decide +kernel
theorem dL_refusesAny_526 : decode cL_refusesAny 526 = .ok (.ifCond .eq 85, 3) := by decide +kernel
theorem dL_refusesAny_529 : decode cL_refusesAny 529 = .ok (.aload_n 0, 1) := by decide +kernel
theorem dL_refusesAny_530 : decode cL_refusesAny 530 = .ok (.iload_n 2, 1) := by decide +kernel
theorem dL_refusesAny_531 : decode cL_refusesAny 531 = .ok (.iconst 0, 1) := by decide +kernel
theorem dL_refusesAny_532 : decode cL_refusesAny 532 = .ok (.iconst 0, 1) := by decide +kernel
theorem dL_refusesAny_533 : decode cL_refusesAny 533 = .ok (.iconst 0, 1) := by decide +kernel
theorem dL_refusesAny_534 : decode cL_refusesAny 534 = .ok (.invokevirtual 80, 3) := by decide +kernel
theorem dL_refusesAny_537 : decode cL_refusesAny 537 = .ok (.iconst (-1), 1) := by decide +kernel
theorem dL_refusesAny_538 : decode cL_refusesAny 538 = .ok (.if_icmp .ne 73, 3) := by decide +kernel
theorem dL_refusesAny_541 : decode cL_refusesAny 541 = .ok (.aload_n 0, 1) := by decide +kernel
theorem dL_refusesAny_542 : decode cL_refusesAny 542 = .ok (.iconst 0, 1) := by decide +kernel
theorem dL_refusesAny_543 : decode cL_refusesAny 543 = .ok (.iload_n 3, 1) := by decide +kernel
theorem dL_refusesAny_544 : decode cL_refusesAny 544 = .ok (.iconst 0, 1) := by decide +kernel
theorem dL_refusesAny_545 : decode cL_refusesAny 545 = .ok (.iconst 0, 1) := by decide +kernel
theorem dL_refusesAny_546 : decode cL_refusesAny 546 = .ok (.invokevirtual 80, 3) := by decide +kernel
theorem dL_refusesAny_549 : decode cL_refusesAny 549 = .ok (.iconst (-1), 1) := by decide +kernel
theorem dL_refusesAny_550 : decode cL_refusesAny 550 = .ok (.if_icmp .ne 61, 3) := by decide +kernel
theorem dL_refusesAny_553 : decode cL_refusesAny 553 = .ok (.aload_n 0, 1) := by decide +kernel
theorem dL_refusesAny_554 : decode cL_refusesAny 554 = .ok (.iconst 0, 1) := by decide +kernel
theorem dL_refusesAny_555 : decode cL_refusesAny 555 = .ok (.iconst 0, 1) := by decide +kernel
theorem dL_refusesAny_556 : decode cL_refusesAny 556 = .ok (.bipush 16, 2) := by decide +kernel
theorem dL_refusesAny_558 : decode cL_refusesAny 558 = .ok (.iconst 0, 1) := by decide +kernel
theorem dL_refusesAny_559 : decode cL_refusesAny 559 = .ok (.invokevirtual 80, 3) := by decide +kernel
theorem dL_refusesAny_562 : decode cL_refusesAny 562 = .ok (.bipush (-5), 2) := by decide +kernel
theorem dL_refusesAny_564 : decode cL_refusesAny 564 = .ok (.if_icmp .ne 47, 3) := by decide +kernel
theorem dL_refusesAny_567 : decode cL_refusesAny 567 = .ok (.aload_n 0, 1) := by decide +kernel
theorem dL_refusesAny_568 : decode cL_refusesAny 568 = .ok (.iload_n 2, 1) := by decide +kernel
theorem dL_refusesAny_569 : decode cL_refusesAny 569 = .ok (.iconst 0, 1) := by decide +kernel
theorem dL_refusesAny_570 : decode cL_refusesAny 570 = .ok (.bipush 9, 2) := by decide +kernel
theorem dL_refusesAny_572 : decode cL_refusesAny 572 = .ok (.invokevirtual 84, 3) := by decide +kernel
theorem dL_refusesAny_575 : decode cL_refusesAny 575 = .ok (.iconst (-1), 1) := by decide +kernel
theorem dL_refusesAny_576 : decode cL_refusesAny 576 = .ok (.if_icmp .ne 35, 3) := by decide +kernel
theorem dL_refusesAny_579 : decode cL_refusesAny 579 = .ok (.aload_n 0, 1) := by decide +kernel
theorem dL_refusesAny_580 : decode cL_refusesAny 580 = .ok (.iconst 0, 1) := by decide +kernel
theorem dL_refusesAny_581 : decode cL_refusesAny 581 = .ok (.iload_n 3, 1) := by decide +kernel
theorem dL_refusesAny_582 : decode cL_refusesAny 582 = .ok (.bipush 9, 2) := by decide +kernel
theorem dL_refusesAny_584 : decode cL_refusesAny 584 = .ok (.invokevirtual 84, 3) := by decide +kernel
theorem dL_refusesAny_587 : decode cL_refusesAny 587 = .ok (.iconst (-1), 1) := by decide +kernel
theorem dL_refusesAny_588 : decode cL_refusesAny 588 = .ok (.if_icmp .ne 23, 3) := by decide +kernel
theorem dL_refusesAny_591 : decode cL_refusesAny 591 = .ok (.aload_n 0, 1) := by decide +kernel
theorem dL_refusesAny_592 : decode cL_refusesAny 592 = .ok (.iconst 0, 1) := by decide +kernel
theorem dL_refusesAny_593 : decode cL_refusesAny 593 = .ok (.iconst 0, 1) := by decide +kernel
theorem dL_refusesAny_594 : decode cL_refusesAny 594 = .ok (.iload_n 1, 1) := by decide +kernel
theorem dL_refusesAny_595 : decode cL_refusesAny 595 = .ok (.ifCond .ne 7, 3) := by decide +kernel
theorem dL_refusesAny_598 : decode cL_refusesAny 598 = .ok (.iconst 5, 1) := by decide +kernel
theorem dL_refusesAny_599 : decode cL_refusesAny 599 = .ok (.goto 4, 3) := by decide +kernel
theorem dL_refusesAny_602 : decode cL_refusesAny 602 = .ok (.iconst (-1), 1) := by decide +kernel
theorem dL_refusesAny_603 : decode cL_refusesAny 603 = .ok (.invokevirtual 84, 3) := by decide +kernel
theorem dL_refusesAny_606 : decode cL_refusesAny 606 = .ok (.bipush (-2), 2) := by decide +kernel
theorem dL_refusesAny_608 : decode cL_refusesAny 608 = .ok (.if_icmp .eq 5, 3) := by decide +kernel
theorem dL_refusesAny_611 : decode cL_refusesAny 611 = .ok (.iconst 0, 1) := by decide +kernel
theorem dL_refusesAny_612 : decode cL_refusesAny 612 = .ok (.ireturn, 1) := by decide +kernel
theorem dL_refusesAny_613 : decode cL_refusesAny 613 = .ok (.aload_n 0, 1) := by decide +kernel
theorem dL_refusesAny_614 : decode cL_refusesAny 614 = .ok (.iload_n 2, 1) := by decide +kernel
theorem dL_refusesAny_615 : decode cL_refusesAny 615 = .ok (.iconst 0, 1) := by decide +kernel
theorem dL_refusesAny_616 : decode cL_refusesAny 616 = .ok (.invokevirtual 87, 3) := by decide +kernel
theorem dL_refusesAny_619 : decode cL_refusesAny 619 = .ok (.aload_n 0, 1) := by decide +kernel
theorem dL_refusesAny_620 : decode cL_refusesAny 620 = .ok (.iload_n 2, 1) := by decide +kernel
theorem dL_refusesAny_621 : decode cL_refusesAny 621 = .ok (.iconst 0, 1) := by decide +kernel
theorem dL_refusesAny_622 : decode cL_refusesAny 622 = .ok (.invokevirtual 87, 3) := by decide +kernel
theorem dL_refusesAny_625 : decode cL_refusesAny 625 = .ok (.dcmp .l, 1) := by decide +kernel
theorem dL_refusesAny_626 : decode cL_refusesAny 626 = .ok (.ifCond .eq 126, 3) := by decide +kernel
theorem dL_refusesAny_629 : decode cL_refusesAny 629 = .ok (.aload_n 0, 1) := by decide +kernel
theorem dL_refusesAny_630 : decode cL_refusesAny 630 = .ok (.iconst 0, 1) := by decide +kernel
theorem dL_refusesAny_631 : decode cL_refusesAny 631 = .ok (.iload_n 3, 1) := by decide +kernel
theorem dL_refusesAny_632 : decode cL_refusesAny 632 = .ok (.invokevirtual 87, 3) := by decide +kernel
theorem dL_refusesAny_635 : decode cL_refusesAny 635 = .ok (.aload_n 0, 1) := by decide +kernel
theorem dL_refusesAny_636 : decode cL_refusesAny 636 = .ok (.iconst 0, 1) := by decide +kernel
theorem dL_refusesAny_637 : decode cL_refusesAny 637 = .ok (.iload_n 3, 1) := by decide +kernel
theorem dL_refusesAny_638 : decode cL_refusesAny 638 = .ok (.invokevirtual 87, 3) := by decide +kernel
theorem dL_refusesAny_641 : decode cL_refusesAny 641 = .ok (.dcmp .l, 1) := by decide +kernel
theorem dL_refusesAny_642 : decode cL_refusesAny 642 = .ok (.ifCond .eq 110, 3) := by decide +kernel
theorem dL_refusesAny_645 : decode cL_refusesAny 645 = .ok (.aload_n 0, 1) := by decide +kernel
theorem dL_refusesAny_646 : decode cL_refusesAny 646 = .ok (.iload_n 2, 1) := by decide +kernel
theorem dL_refusesAny_647 : decode cL_refusesAny 647 = .ok (.iconst 0, 1) := by decide +kernel
theorem dL_refusesAny_648 : decode cL_refusesAny 648 = .ok (.invokevirtual 90, 3) := by decide +kernel
theorem dL_refusesAny_651 : decode cL_refusesAny 651 = .ok (.aload_n 0, 1) := by decide +kernel
theorem dL_refusesAny_652 : decode cL_refusesAny 652 = .ok (.iload_n 2, 1) := by decide +kernel
theorem dL_refusesAny_653 : decode cL_refusesAny 653 = .ok (.iconst 0, 1) := by decide +kernel
theorem dL_refusesAny_654 : decode cL_refusesAny 654 = .ok (.invokevirtual 90, 3) := by decide +kernel
theorem dL_refusesAny_657 : decode cL_refusesAny 657 = .ok (.dcmp .l, 1) := by decide +kernel
theorem dL_refusesAny_658 : decode cL_refusesAny 658 = .ok (.ifCond .eq 94, 3) := by decide +kernel
theorem dL_refusesAny_661 : decode cL_refusesAny 661 = .ok (.aload_n 0, 1) := by decide +kernel
theorem dL_refusesAny_662 : decode cL_refusesAny 662 = .ok (.iconst 0, 1) := by decide +kernel
theorem dL_refusesAny_663 : decode cL_refusesAny 663 = .ok (.iload_n 3, 1) := by decide +kernel
theorem dL_refusesAny_664 : decode cL_refusesAny 664 = .ok (.invokevirtual 90, 3) := by decide +kernel
theorem dL_refusesAny_667 : decode cL_refusesAny 667 = .ok (.aload_n 0, 1) := by decide +kernel
theorem dL_refusesAny_668 : decode cL_refusesAny 668 = .ok (.iconst 0, 1) := by decide +kernel
theorem dL_refusesAny_669 : decode cL_refusesAny 669 = .ok (.iload_n 3, 1) := by decide +kernel
theorem dL_refusesAny_670 : decode cL_refusesAny 670 = .ok (.invokevirtual 90, 3) := by decide +kernel
theorem dL_refusesAny_673 : decode cL_refusesAny 673 = .ok (.dcmp .l, 1) := by decide +kernel
theorem dL_refusesAny_674 : decode cL_refusesAny 674 = .ok (.ifCond .eq 78, 3) := by decide +kernel
theorem dL_refusesAny_677 : decode cL_refusesAny 677 = .ok (.aload_n 0, 1) := by decide +kernel
theorem dL_refusesAny_678 : decode cL_refusesAny 678 = .ok (.iload_n 2, 1) := by decide +kernel
theorem dL_refusesAny_679 : decode cL_refusesAny 679 = .ok (.invokevirtual 93, 3) := by decide +kernel
theorem dL_refusesAny_682 : decode cL_refusesAny 682 = .ok (.aload_n 0, 1) := by decide +kernel
theorem dL_refusesAny_683 : decode cL_refusesAny 683 = .ok (.iload_n 2, 1) := by decide +kernel
theorem dL_refusesAny_684 : decode cL_refusesAny 684 = .ok (.invokevirtual 93, 3) := by decide +kernel
theorem dL_refusesAny_687 : decode cL_refusesAny 687 = .ok (.dcmp .l, 1) := by decide +kernel
theorem dL_refusesAny_688 : decode cL_refusesAny 688 = .ok (.ifCond .eq 64, 3) := by decide +kernel
theorem dL_refusesAny_691 : decode cL_refusesAny 691 = .ok (.aload_n 0, 1) := by decide +kernel
theorem dL_refusesAny_692 : decode cL_refusesAny 692 = .ok (.iload_n 2, 1) := by decide +kernel
theorem dL_refusesAny_693 : decode cL_refusesAny 693 = .ok (.invokevirtual 96, 3) := by decide +kernel
theorem dL_refusesAny_696 : decode cL_refusesAny 696 = .ok (.iconst (-1), 1) := by decide +kernel
theorem dL_refusesAny_697 : decode cL_refusesAny 697 = .ok (.if_icmp .ne 55, 3) := by decide +kernel
theorem dL_refusesAny_700 : decode cL_refusesAny 700 = .ok (.aload_n 0, 1) := by decide +kernel
theorem dL_refusesAny_701 : decode cL_refusesAny 701 = .ok (.iload_n 2, 1) := by decide +kernel
theorem dL_refusesAny_702 : decode cL_refusesAny 702 = .ok (.iconst 0, 1) := by decide +kernel
theorem dL_refusesAny_703 : decode cL_refusesAny 703 = .ok (.lload 4, 2) := by decide +kernel
theorem dL_refusesAny_705 : decode cL_refusesAny 705 = .ok (.invokevirtual 99, 3) := by decide +kernel
theorem dL_refusesAny_708 : decode cL_refusesAny 708 = .ok (.iconst (-1), 1) := by decide +kernel
theorem dL_refusesAny_709 : decode cL_refusesAny 709 = .ok (.if_icmp .ne 43, 3) := by decide +kernel
theorem dL_refusesAny_712 : decode cL_refusesAny 712 = .ok (.aload_n 0, 1) := by decide +kernel
theorem dL_refusesAny_713 : decode cL_refusesAny 713 = .ok (.iconst 0, 1) := by decide +kernel
theorem dL_refusesAny_714 : decode cL_refusesAny 714 = .ok (.iload_n 3, 1) := by decide +kernel
theorem dL_refusesAny_715 : decode cL_refusesAny 715 = .ok (.lload 4, 2) := by decide +kernel
theorem dL_refusesAny_717 : decode cL_refusesAny 717 = .ok (.invokevirtual 99, 3) := by decide +kernel
theorem dL_refusesAny_720 : decode cL_refusesAny 720 = .ok (.iconst (-1), 1) := by decide +kernel
theorem dL_refusesAny_721 : decode cL_refusesAny 721 = .ok (.if_icmp .ne 31, 3) := by decide +kernel
theorem dL_refusesAny_724 : decode cL_refusesAny 724 = .ok (.aload_n 0, 1) := by decide +kernel
theorem dL_refusesAny_725 : decode cL_refusesAny 725 = .ok (.iconst 0, 1) := by decide +kernel
theorem dL_refusesAny_726 : decode cL_refusesAny 726 = .ok (.iconst 0, 1) := by decide +kernel
theorem dL_refusesAny_727 : decode cL_refusesAny 727 = .ok (.iload_n 1, 1) := by decide +kernel
theorem dL_refusesAny_728 : decode cL_refusesAny 728 = .ok (.ifCond .ne 9, 3) := by decide +kernel
theorem dL_refusesAny_731 : decode cL_refusesAny 731 = .ok (.ldc2_w 17, 3) := by decide +kernel
theorem dL_refusesAny_734 : decode cL_refusesAny 734 = .ok (.goto 6, 3) := by decide +kernel
theorem dL_refusesAny_737 : decode cL_refusesAny 737 = .ok (.ldc2_w 102, 3) := by decide +kernel
theorem dL_refusesAny_740 : decode cL_refusesAny 740 = .ok (.invokevirtual 99, 3) := by decide +kernel
theorem dL_refusesAny_743 : decode cL_refusesAny 743 = .ok (.bipush (-2), 2) := by decide +kernel
theorem dL_refusesAny_745 : decode cL_refusesAny 745 = .ok (.if_icmp .ne 7, 3) := by decide +kernel
theorem dL_refusesAny_748 : decode cL_refusesAny 748 = .ok (.iconst 1, 1) := by decide +kernel
theorem dL_refusesAny_749 : decode cL_refusesAny 749 = .ok (.goto 4, 3) := by decide +kernel
theorem dL_refusesAny_752 : decode cL_refusesAny 752 = .ok (.iconst 0, 1) := by decide +kernel
theorem dL_refusesAny_753 : decode cL_refusesAny 753 = .ok (.ireturn, 1) := by decide +kernel
set_option maxRecDepth 20000 in
theorem ggL_refused_X8_count : GoodIn wsL_refused wsX8_count := goodIn_r _ [5, 6, 7, 8, 9, 10, 11, 12, 13, 14, 15, 16, 17, 18, 19, 20, 21, 22, 4, 23, 24, 25, 26, 27, 28, 29, 30, 31, 32, 33, 34, 35, 36, 37, 38, 39, 40, 41, 42, 43, 44, 45, 46, 47, 48, 49, 50, 51, 52, 53, 54, 55, 56, 57, 58, 59, 60, 61, 62, 63, 64, 65, 66, 67, 68, 69, 70, 71, 72, 73, 74, 75, 76, 77, 78, 79, 80, 81, 82, 83, 84, 85, 86, 87, 88, 89, 90, 91, 92, 93, 94, 95, 96, 97, 98, 99, 100, 101, 102, 103, 104, 105, 106, 397, 398, 399, 400, 401, 402, 403, 404, 405, 406, 407, 408, 409, 410, 411, 412, 413, 414, 415, 416, 417, 418, 419, 420, 421, 422, 423, 424, 425, 426] (by decide +kernel) (by decide +kernel)
set_option maxRecDepth 20000 in
theorem gL_refused_X8_count : GoodIn wsL_refused (wsV RL 33 RX8 yX8_count wsX8_count) := goodIn_app (goodIn_of _ (by decide +kernel)) ggL_refused_X8_count
theorem dL_refused_0 : decode cL_refused 0 = .ok (.aload_n 0, 1) := by decide +kernel
theorem dL_refused_1 : decode cL_refused 1 = .ok (.iconst 4, 1) := by decide +kernel
theorem dL_refused_2 : decode cL_refused 2 = .ok (.invokevirtual 33, 3) := by decide +kernel
theorem dL_refused_5 : decode cL_refused 5 = .ok (.istore_n 1, 1) := by decide +kernel
theorem dL_refused_6 : decode cL_refused 6 = .ok (.aload_n 0, 1) := by decide +kernel
theorem dL_refused_7 : decode cL_refused 7 = .ok (.iconst 5, 1) := by decide +kernel
theorem dL_refused_8 : decode cL_refused 8 = .ok (.invokevirtual 33, 3) := by decide +kernel
theorem dL_refused_11 : decode cL_refused 11 = .ok (.istore_n 2, 1) := by decide +kernel
theorem dL_refused_12 : decode cL_refused 12 = .ok (.aload_n 0, 1) := by decide +kernel
theorem dL_refused_13 : decode cL_refused 13 = .ok (.iconst 0, 1) := by decide +kernel
theorem dL_refused_14 : decode cL_refused 14 = .ok (.invokevirtual 33, 3) := by decide +kernel
theorem dL_refused_17 : decode cL_refused 17 = .ok (.istore_n 3, 1) := by decide +kernel
theorem dL_refused_18 : decode cL_refused 18 = .ok (.aload_n 0, 1) := by decide +kernel
theorem dL_refused_19 : decode cL_refused 19 = .ok (.iconst 0, 1) := by decide +kernel
theorem dL_refused_20 : decode cL_refused 20 = .ok (.invokestatic 104, 3) := by decide +kernel
theorem dL_refused_23 : decode cL_refused 23 = .ok (.ifCond .eq 42, 3) := by decide +kernel
theorem dL_refused_26 : decode cL_refused 26 = .ok (.aload_n 0, 1) := by decide +kernel
theorem dL_refused_27 : decode cL_refused 27 = .ok (.iconst 1, 1) := by decide +kernel
theorem dL_refused_28 : decode cL_refused 28 = .ok (.invokestatic 104, 3) := by decide +kernel
theorem dL_refused_31 : decode cL_refused 31 = .ok (.ifCond .eq 34, 3) := by decide +kernel
theorem dL_refused_34 : decode cL_refused 34 = .ok (.aload_n 0, 1) := by decide +kernel
theorem dL_refused_35 : decode cL_refused 35 = .ok (.iconst 4, 1) := by decide +kernel
theorem dL_refused_36 : decode cL_refused 36 = .ok (.invokevirtual 33, 3) := by decide +kernel
theorem dL_refused_39 : decode cL_refused 39 = .ok (.iload_n 1, 1) := by decide +kernel
theorem dL_refused_40 : decode cL_refused 40 = .ok (.if_icmp .ne 25, 3) := by decide +kernel
theorem dL_refused_43 : decode cL_refused 43 = .ok (.aload_n 0, 1) := by decide +kernel
theorem dL_refused_44 : decode cL_refused 44 = .ok (.iconst 5, 1) := by decide +kernel
theorem dL_refused_45 : decode cL_refused 45 = .ok (.invokevirtual 33, 3) := by decide +kernel
theorem dL_refused_48 : decode cL_refused 48 = .ok (.iload_n 2, 1) := by decide +kernel
theorem dL_refused_49 : decode cL_refused 49 = .ok (.if_icmp .ne 16, 3) := by decide +kernel
theorem dL_refused_52 : decode cL_refused 52 = .ok (.aload_n 0, 1) := by decide +kernel
theorem dL_refused_53 : decode cL_refused 53 = .ok (.iconst 0, 1) := by decide +kernel
theorem dL_refused_54 : decode cL_refused 54 = .ok (.invokevirtual 33, 3) := by decide +kernel
theorem dL_refused_57 : decode cL_refused 57 = .ok (.iload_n 3, 1) := by decide +kernel
theorem dL_refused_58 : decode cL_refused 58 = .ok (.if_icmp .ne 7, 3) := by decide +kernel
theorem dL_refused_61 : decode cL_refused 61 = .ok (.iconst 1, 1) := by decide +kernel
theorem dL_refused_62 : decode cL_refused 62 = .ok (.goto 4, 3) := by decide +kernel
theorem dL_refused_65 : decode cL_refused 65 = .ok (.iconst 0, 1) := by decide +kernel
theorem dL_refused_66 : decode cL_refused 66 = .ok (.ireturn, 1) := by decide +kernel
set_option maxRecDepth 20000 in
theorem ggL_puts_X8_type : GoodIn wsL_puts wsX8_type := goodIn_r _ [6, 7, 8, 9, 10, 11, 12, 13, 14, 15, 16, 17, 18, 19, 20, 21, 22, 23, 24, 25, 26] (by decide +kernel) (by decide +kernel)
set_option maxRecDepth 20000 in
theorem gL_puts_X8_type : GoodIn wsL_puts (wsV RL 110 RX8 yX8_type wsX8_type) := goodIn_app (goodIn_of _ (by decide +kernel)) ggL_puts_X8_type
theorem dL_puts_0 : decode cL_puts 0 = .ok (.iconst 1, 1) := by decide +kernel
theorem dL_puts_1 : decode cL_puts 1 = .ok (.istore_n 3, 1) := by decide +kernel
theorem dL_puts_2 : decode cL_puts 2 = .ok (.bipush 56, 2) := by decide +kernel
theorem dL_puts_4 : decode cL_puts 4 = .ok (.istore 4, 2) := by decide +kernel
theorem dL_puts_6 : decode cL_puts 6 = .ok (.iload 4, 2) := by decide +kernel
theorem dL_puts_8 : decode cL_puts 8 = .ok (.ifCond .lt 45, 3) := by decide +kernel
theorem dL_puts_11 : decode cL_puts 11 = .ok (.lload_n 1, 1) := by decide +kernel
theorem dL_puts_12 : decode cL_puts 12 = .ok (.iload 4, 2) := by decide +kernel
theorem dL_puts_14 : decode cL_puts 14 = .ok (.lshr, 1) := by decide +kernel
theorem dL_puts_15 : decode cL_puts 15 = .ok (.ldc2_w 108, 3) := by decide +kernel
theorem dL_puts_18 : decode cL_puts 18 = .ok (.land, 1) := by decide +kernel
theorem dL_puts_19 : decode cL_puts 19 = .ok (.l2i, 1) := by decide +kernel
theorem dL_puts_20 : decode cL_puts 20 = .ok (.istore 5, 2) := by decide +kernel
theorem dL_puts_22 : decode cL_puts 22 = .ok (.iload 5, 2) := by decide +kernel
theorem dL_puts_24 : decode cL_puts 24 = .ok (.ifCond .le 23, 3) := by decide +kernel
theorem dL_puts_27 : decode cL_puts 27 = .ok (.iload_n 3, 1) := by decide +kernel
theorem dL_puts_28 : decode cL_puts 28 = .ok (.ifCond .eq 17, 3) := by decide +kernel
theorem dL_puts_31 : decode cL_puts 31 = .ok (.aload_n 0, 1) := by decide +kernel
theorem dL_puts_32 : decode cL_puts 32 = .ok (.iload 5, 2) := by decide +kernel
theorem dL_puts_34 : decode cL_puts 34 = .ok (.i2c, 1) := by decide +kernel
theorem dL_puts_35 : decode cL_puts 35 = .ok (.invokevirtual 110, 3) := by decide +kernel
theorem dL_puts_38 : decode cL_puts 38 = .ok (.ifCond .le 7, 3) := by decide +kernel
theorem dL_puts_41 : decode cL_puts 41 = .ok (.iconst 1, 1) := by decide +kernel
theorem dL_puts_42 : decode cL_puts 42 = .ok (.goto 4, 3) := by decide +kernel
theorem dL_puts_45 : decode cL_puts 45 = .ok (.iconst 0, 1) := by decide +kernel
theorem dL_puts_46 : decode cL_puts 46 = .ok (.istore_n 3, 1) := by decide +kernel
theorem dL_puts_47 : decode cL_puts 47 = .ok (.iinc 4 (-8), 3) := by decide +kernel
theorem dL_puts_50 : decode cL_puts 50 = .ok (.goto (-44), 3) := by decide +kernel
theorem dL_puts_53 : decode cL_puts 53 = .ok (.iload_n 3, 1) := by decide +kernel
theorem dL_puts_54 : decode cL_puts 54 = .ok (.ireturn, 1) := by decide +kernel
set_option maxRecDepth 20000 in
theorem ggL_readOf_X8_init : GoodIn wsL_readOf wsX8_init := goodIn_r _ [6, 7, 8, 9, 10, 11, 12, 13, 14, 15, 16, 17, 18, 19, 20, 21, 22, 23, 24, 25, 26, 27, 28, 29, 30, 31, 32, 33, 34, 35, 36, 37, 38, 39, 40, 41, 42, 43, 44, 45, 46, 47, 48, 49, 50, 51, 52, 53, 54, 55, 56, 57, 58, 59, 60, 61, 62, 63, 64, 65, 66, 67, 68, 69, 70, 71, 72, 73, 74, 75, 76, 77, 78, 79, 80, 249, 250, 251, 252, 242, 243, 244, 245, 246, 247, 248, 253, 254, 255, 256, 257, 258, 259, 260, 261, 262, 263, 264, 265, 266, 267, 268, 269, 270, 271] (by decide +kernel) (by decide +kernel)
set_option maxRecDepth 20000 in
theorem gL_readOf_X8_init : GoodIn wsL_readOf (wsX8_init) := ggL_readOf_X8_init
set_option maxRecDepth 20000 in
theorem ggL_readOf_L_puts : GoodIn wsL_readOf wsL_puts := goodIn_r _ [84, 85, 86, 87, 88, 3, 89, 23, 90, 91, 92, 93, 22, 94, 64, 63, 242, 243, 244, 245, 246, 247, 248, 256, 257, 258, 259] (by decide +kernel) (by decide +kernel)
set_option maxRecDepth 20000 in
theorem gL_readOf_L_puts : GoodIn wsL_readOf (va_wsS RL 115 yL_puts wsL_puts) := goodIn_app (goodIn_of _ (by decide +kernel)) ggL_readOf_L_puts
set_option maxRecDepth 20000 in
theorem ggL_readOf_X8_read : GoodIn wsL_readOf wsX8_read := goodIn_r _ [98, 23, 31, 99, 100, 3, 101, 102, 103, 104, 22, 105, 65, 106, 64, 107, 108, 109, 110, 66, 111, 112, 113, 114, 63, 115, 116, 117, 118, 119, 120, 121, 122, 123, 124, 125, 126, 127, 128, 129, 30, 130, 49, 48, 131, 132, 133, 134, 19, 13, 135, 136, 137, 138, 18, 139, 57, 56, 55, 140, 141, 142, 12, 143, 37, 38, 40, 144, 145, 146, 147, 41, 148, 149, 150, 151, 152, 153, 154, 155, 156, 157, 242, 243, 244, 245, 246, 247, 248, 256, 257, 258, 259, 270, 271, 253, 254, 255, 249, 250, 251, 252] (by decide +kernel) (by decide +kernel)
set_option maxRecDepth 20000 in
theorem gL_readOf_X8_read : GoodIn wsL_readOf (wsV RL 41 RX8 yX8_read wsX8_read) := goodIn_app (goodIn_of _ (by decide +kernel)) ggL_readOf_X8_read
set_option maxRecDepth 20000 in
theorem ggL_readOf_X8_count : GoodIn wsL_readOf wsX8_count := goodIn_r _ [161, 13, 135, 162, 19, 163, 23, 90, 153, 154, 155, 12, 156, 37, 38, 164, 165, 166, 3, 167, 27, 168, 169, 170, 26, 171, 73, 172, 74, 75, 173, 76, 174, 77, 175, 176, 177, 178, 179, 180, 70, 72, 181, 182, 183, 184, 185, 186, 187, 188, 189, 190, 191, 192, 193, 194, 195, 196, 197, 198, 199, 200, 201, 202, 203, 204, 205, 206, 207, 208, 209, 210, 211, 212, 213, 214, 215, 216, 217, 218, 219, 220, 221, 222, 223, 224, 225, 226, 227, 228, 229, 230, 231, 232, 233, 234, 235, 236, 237, 238, 239, 240, 241, 242, 243, 244, 245, 246, 247, 248, 270, 271, 249, 250, 251, 252, 253, 254, 255, 256, 257, 258, 259, 260, 261, 262, 263, 264, 265, 266, 267, 268, 269] (by decide +kernel) (by decide +kernel)
set_option maxRecDepth 20000 in
theorem gL_readOf_X8_count : GoodIn wsL_readOf (wsV RL 33 RX8 yX8_count wsX8_count) := goodIn_app (goodIn_of _ (by decide +kernel)) ggL_readOf_X8_count
theorem dL_readOf_0 : decode cL_readOf 0 = .ok (.new 10, 3) := by decide +kernel
theorem dL_readOf_3 : decode cL_readOf 3 = .ok (.dup, 1) := by decide +kernel
theorem dL_readOf_4 : decode cL_readOf 4 = .ok (.invokespecial 114, 3) := by decide +kernel
theorem dL_readOf_7 : decode cL_readOf 7 = .ok (.astore 4, 2) := by decide +kernel
theorem dL_readOf_9 : decode cL_readOf 9 = .ok (.aload 4, 2) := by decide +kernel
theorem dL_readOf_11 : decode cL_readOf 11 = .ok (.lload_n 0, 1) := by decide +kernel
theorem dL_readOf_12 : decode cL_readOf 12 = .ok (.invokestatic 115, 3) := by decide +kernel
theorem dL_readOf_15 : decode cL_readOf 15 = .ok (.ifCond .eq 12, 3) := by decide +kernel
theorem dL_readOf_18 : decode cL_readOf 18 = .ok (.aload 4, 2) := by decide +kernel
theorem dL_readOf_20 : decode cL_readOf 20 = .ok (.lload_n 2, 1) := by decide +kernel
theorem dL_readOf_21 : decode cL_readOf 21 = .ok (.invokestatic 115, 3) := by decide +kernel
theorem dL_readOf_24 : decode cL_readOf 24 = .ok (.ifCond .ne 6, 3) := by decide +kernel
theorem dL_readOf_27 : decode cL_readOf 27 = .ok (.bipush (-99), 2) := by decide +kernel
theorem dL_readOf_29 : decode cL_readOf 29 = .ok (.ireturn, 1) := by decide +kernel
theorem dL_readOf_30 : decode cL_readOf 30 = .ok (.aload 4, 2) := by decide +kernel
theorem dL_readOf_32 : decode cL_readOf 32 = .ok (.iconst 1, 1) := by decide +kernel
theorem dL_readOf_33 : decode cL_readOf 33 = .ok (.invokevirtual 41, 3) := by decide +kernel
theorem dL_readOf_36 : decode cL_readOf 36 = .ok (.istore 5, 2) := by decide +kernel
theorem dL_readOf_38 : decode cL_readOf 38 = .ok (.aload 4, 2) := by decide +kernel
theorem dL_readOf_40 : decode cL_readOf 40 = .ok (.iconst 4, 1) := by decide +kernel
theorem dL_readOf_41 : decode cL_readOf 41 = .ok (.invokevirtual 33, 3) := by decide +kernel
theorem dL_readOf_44 : decode cL_readOf 44 = .ok (.iload 5, 2) := by decide +kernel
theorem dL_readOf_46 : decode cL_readOf 46 = .ok (.ifCond .ge 7, 3) := by decide +kernel
theorem dL_readOf_49 : decode cL_readOf 49 = .ok (.iconst 0, 1) := by decide +kernel
theorem dL_readOf_50 : decode cL_readOf 50 = .ok (.goto 4, 3) := by decide +kernel
theorem dL_readOf_53 : decode cL_readOf 53 = .ok (.iconst 1, 1) := by decide +kernel
theorem dL_readOf_54 : decode cL_readOf 54 = .ok (.if_icmp .ne 28, 3) := by decide +kernel
theorem dL_readOf_57 : decode cL_readOf 57 = .ok (.aload 4, 2) := by decide +kernel
theorem dL_readOf_59 : decode cL_readOf 59 = .ok (.iconst 1, 1) := by decide +kernel
theorem dL_readOf_60 : decode cL_readOf 60 = .ok (.invokevirtual 33, 3) := by decide +kernel
theorem dL_readOf_63 : decode cL_readOf 63 = .ok (.iload 5, 2) := by decide +kernel
theorem dL_readOf_65 : decode cL_readOf 65 = .ok (.ifCond .ge 7, 3) := by decide +kernel
theorem dL_readOf_68 : decode cL_readOf 68 = .ok (.iconst 0, 1) := by decide +kernel
theorem dL_readOf_69 : decode cL_readOf 69 = .ok (.goto 5, 3) := by decide +kernel
theorem dL_readOf_72 : decode cL_readOf 72 = .ok (.iload 5, 2) := by decide +kernel
theorem dL_readOf_74 : decode cL_readOf 74 = .ok (.if_icmp .ne 8, 3) := by decide +kernel
theorem dL_readOf_77 : decode cL_readOf 77 = .ok (.iload 5, 2) := by decide +kernel
theorem dL_readOf_79 : decode cL_readOf 79 = .ok (.goto 5, 3) := by decide +kernel
theorem dL_readOf_82 : decode cL_readOf 82 = .ok (.bipush (-98), 2) := by decide +kernel
theorem dL_readOf_84 : decode cL_readOf 84 = .ok (.ireturn, 1) := by decide +kernel
set_option maxRecDepth 20000 in
theorem ggL_texts_L_readOf : GoodIn wsL_texts wsL_readOf := goodIn_r _ [30, 17, 18, 19, 31, 32, 33, 34, 35, 36, 37, 38, 39, 40, 41, 42, 43, 44, 45, 46, 47, 48, 49, 50, 51, 52, 53, 54, 55, 56, 57, 58, 59, 60, 61, 62, 63, 64, 65, 66, 67, 68, 69, 70, 71, 72, 73, 74, 75, 76, 77, 78, 79, 80, 81, 82, 83, 84, 85, 86, 87, 88, 89, 90, 91, 92, 93, 94, 95, 96, 97, 98, 99, 100, 101, 102, 103, 104, 105, 106, 107, 108, 109, 29, 110, 111, 112, 113, 114, 115, 116, 117, 118, 119, 120, 121, 122, 123, 124, 125, 126, 127, 128, 129, 130, 131, 132, 133, 134, 135, 136, 137, 138, 139, 140, 141, 142, 143, 144, 145, 146, 147, 148, 149, 150, 151, 152, 153, 154, 155, 156, 157, 158, 159, 160, 161, 162, 163, 164, 165, 166, 167, 168, 169, 170, 171, 172, 173, 174, 175, 176, 177, 178, 179, 180, 181, 182, 183, 184, 185, 186, 187, 188, 189, 190, 191, 192, 193, 194, 195, 196, 197, 198, 199, 200, 201, 202, 203, 204, 205, 206, 207, 208, 209, 210, 211, 212, 213, 214, 215, 216, 217, 218, 219, 220, 221, 222, 223, 224, 225, 226, 227, 228, 229, 230, 231, 232, 233, 234, 235, 236, 237, 238, 239, 240, 241, 242, 243, 244, 245, 246, 247, 248, 249, 250, 251, 252, 253, 254, 255, 256, 257, 258, 259, 260, 261, 262, 263, 264, 265, 266, 267, 488, 489, 490, 491, 492, 493, 494, 495, 496, 497, 498, 499, 500, 501, 502, 503, 504, 505, 506, 507, 508, 509, 510, 511, 512, 513, 514, 515, 516, 517] (by decide +kernel) (by decide +kernel)
set_option maxRecDepth 20000 in
theorem gL_texts_L_readOf : GoodIn wsL_texts (va_wsS RL 119 yL_readOf wsL_readOf) := goodIn_app (goodIn_of _ (by decide +kernel)) ggL_texts_L_readOf
set_option maxRecDepth 20000 in
theorem ggL_texts_X8_init : GoodIn wsL_texts wsX8_init := goodIn_r _ [33, 34, 35, 36, 37, 38, 39, 40, 41, 42, 43, 44, 45, 46, 47, 48, 49, 50, 51, 52, 53, 54, 55, 56, 57, 58, 59, 60, 61, 62, 63, 64, 65, 66, 67, 68, 69, 70, 71, 72, 73, 74, 75, 76, 77, 78, 79, 80, 81, 82, 83, 84, 85, 86, 87, 88, 89, 90, 91, 92, 93, 94, 95, 96, 97, 98, 99, 100, 101, 102, 103, 104, 105, 106, 107, 495, 496, 497, 498, 488, 489, 490, 491, 492, 493, 494, 499, 500, 501, 502, 503, 504, 505, 506, 507, 508, 509, 510, 511, 512, 513, 514, 515, 516, 517] (by decide +kernel) (by decide +kernel)
set_option maxRecDepth 20000 in
theorem gL_texts_X8_init : GoodIn wsL_texts (wsX8_init) := ggL_texts_X8_init
set_option maxRecDepth 20000 in
theorem ggL_texts_L_puts : GoodIn wsL_texts wsL_puts := goodIn_r _ [110, 111, 112, 113, 114, 19, 115, 50, 116, 117, 118, 119, 49, 120, 91, 90, 488, 489, 490, 491, 492, 493, 494, 502, 503, 504, 505] (by decide +kernel) (by decide +kernel)
set_option maxRecDepth 20000 in
theorem gL_texts_L_puts : GoodIn wsL_texts (va_wsS RL 115 yL_puts wsL_puts) := goodIn_app (goodIn_of _ (by decide +kernel)) ggL_texts_L_puts
set_option maxRecDepth 20000 in
theorem ggL_texts_X8_read : GoodIn wsL_texts wsX8_read := goodIn_r _ [124, 50, 58, 125, 126, 19, 127, 128, 129, 130, 49, 131, 92, 132, 91, 133, 134, 135, 136, 93, 137, 138, 139, 140, 90, 141, 142, 143, 144, 145, 146, 147, 148, 149, 150, 151, 152, 153, 154, 155, 57, 156, 76, 75, 157, 158, 159, 160, 46, 40, 161, 162, 163, 164, 45, 165, 84, 83, 82, 166, 167, 168, 39, 169, 64, 65, 67, 170, 171, 172, 173, 68, 174, 175, 176, 177, 178, 179, 180, 181, 182, 183, 488, 489, 490, 491, 492, 493, 494, 502, 503, 504, 505, 516, 517, 499, 500, 501, 495, 496, 497, 498] (by decide +kernel) (by decide +kernel)
set_option maxRecDepth 20000 in
theorem gL_texts_X8_read : GoodIn wsL_texts (wsV RL 41 RX8 yX8_read wsX8_read) := goodIn_app (goodIn_of _ (by decide +kernel)) ggL_texts_X8_read
set_option maxRecDepth 20000 in
theorem ggL_texts_X8_number : GoodIn wsL_texts wsX8_number := goodIn_r _ [271, 40, 272, 125, 126, 19, 127, 179, 180, 181, 39, 182, 64, 65, 273, 274, 275, 57, 276, 76, 277, 278, 279, 280, 488, 489, 490, 491, 492, 493, 494, 516, 517, 495, 496, 497, 498] (by decide +kernel) (by decide +kernel)
set_option maxRecDepth 20000 in
theorem gL_texts_X8_number : GoodIn wsL_texts (wsV RL 9 RX8 yX8_number wsX8_number) := goodIn_app (goodIn_of _ (by decide +kernel)) ggL_texts_X8_number
set_option maxRecDepth 20000 in
theorem ggL_texts_X8_count : GoodIn wsL_texts wsX8_count := goodIn_r _ [187, 40, 161, 188, 46, 189, 50, 116, 179, 180, 181, 39, 182, 64, 65, 190, 191, 192, 19, 193, 54, 194, 195, 196, 53, 197, 100, 198, 101, 102, 199, 103, 200, 104, 201, 202, 203, 204, 205, 206, 97, 99, 207, 208, 209, 210, 211, 212, 213, 214, 215, 216, 217, 218, 219, 220, 221, 222, 223, 224, 225, 226, 227, 228, 229, 230, 231, 232, 233, 234, 235, 236, 237, 238, 239, 240, 241, 242, 243, 244, 245, 246, 247, 248, 249, 250, 251, 252, 253, 254, 255, 256, 257, 258, 259, 260, 261, 262, 263, 264, 265, 266, 267, 488, 489, 490, 491, 492, 493, 494, 516, 517, 495, 496, 497, 498, 499, 500, 501, 502, 503, 504, 505, 506, 507, 508, 509, 510, 511, 512, 513, 514, 515] (by decide +kernel) (by decide +kernel)
set_option maxRecDepth 20000 in
theorem gL_texts_X8_count : GoodIn wsL_texts (wsV RL 33 RX8 yX8_count wsX8_count) := goodIn_app (goodIn_of _ (by decide +kernel)) ggL_texts_X8_count
set_option maxRecDepth 20000 in
theorem ggL_texts_X8_clearText : GoodIn wsL_texts wsX8_clearText := goodIn_r _ [284, 50, 116, 488, 489, 490, 491, 492, 493, 494, 502, 503, 504, 505] (by decide +kernel) (by decide +kernel)
set_option maxRecDepth 20000 in
theorem gL_texts_X8_clearText : GoodIn wsL_texts (wsV RL 169 RX8 yX8_clearText wsX8_clearText) := goodIn_app (goodIn_of _ (by decide +kernel)) ggL_texts_X8_clearText
set_option maxRecDepth 20000 in
theorem ggL_texts_X8_type : GoodIn wsL_texts wsX8_type := goodIn_r _ [115, 50, 116, 117, 118, 119, 49, 120, 91, 90, 488, 489, 490, 491, 492, 493, 494, 502, 503, 504, 505] (by decide +kernel) (by decide +kernel)
set_option maxRecDepth 20000 in
theorem gL_texts_X8_type : GoodIn wsL_texts (wsV RL 110 RX8 yX8_type wsX8_type) := goodIn_app (goodIn_of _ (by decide +kernel)) ggL_texts_X8_type
theorem dL_texts_0 : decode cL_texts 0 = .ok (.lconst 0, 1) := by decide +kernel
theorem dL_texts_1 : decode cL_texts 1 = .ok (.lconst 0, 1) := by decide +kernel
theorem dL_texts_2 : decode cL_texts 2 = .ok (.invokestatic 119, 3) := by decide +kernel
theorem dL_texts_5 : decode cL_texts 5 = .ok (.bipush (-100), 2) := by decide +kernel
theorem dL_texts_7 : decode cL_texts 7 = .ok (.if_icmp .ne 87, 3) := by decide +kernel
theorem dL_texts_10 : decode cL_texts 10 = .ok (.ldc2_w 123, 3) := by decide +kernel
theorem dL_texts_13 : decode cL_texts 13 = .ok (.lconst 0, 1) := by decide +kernel
theorem dL_texts_14 : decode cL_texts 14 = .ok (.invokestatic 119, 3) := by decide +kernel
theorem dL_texts_17 : decode cL_texts 17 = .ok (.bipush (-101), 2) := by decide +kernel
theorem dL_texts_19 : decode cL_texts 19 = .ok (.if_icmp .ne 75, 3) := by decide +kernel
theorem dL_texts_22 : decode cL_texts 22 = .ok (.ldc2_w 125, 3) := by decide +kernel
theorem dL_texts_25 : decode cL_texts 25 = .ok (.lconst 0, 1) := by decide +kernel
theorem dL_texts_26 : decode cL_texts 26 = .ok (.invokestatic 119, 3) := by decide +kernel
theorem dL_texts_29 : decode cL_texts 29 = .ok (.iconst 1, 1) := by decide +kernel
theorem dL_texts_30 : decode cL_texts 30 = .ok (.if_icmp .ne 64, 3) := by decide +kernel
theorem dL_texts_33 : decode cL_texts 33 = .ok (.ldc2_w 127, 3) := by decide +kernel
theorem dL_texts_36 : decode cL_texts 36 = .ok (.lconst 0, 1) := by decide +kernel
theorem dL_texts_37 : decode cL_texts 37 = .ok (.invokestatic 119, 3) := by decide +kernel
theorem dL_texts_40 : decode cL_texts 40 = .ok (.bipush (-101), 2) := by decide +kernel
theorem dL_texts_42 : decode cL_texts 42 = .ok (.if_icmp .ne 52, 3) := by decide +kernel
theorem dL_texts_45 : decode cL_texts 45 = .ok (.ldc2_w 129, 3) := by decide +kernel
theorem dL_texts_48 : decode cL_texts 48 = .ok (.lconst 0, 1) := by decide +kernel
theorem dL_texts_49 : decode cL_texts 49 = .ok (.invokestatic 119, 3) := by decide +kernel
theorem dL_texts_52 : decode cL_texts 52 = .ok (.bipush (-103), 2) := by decide +kernel
theorem dL_texts_54 : decode cL_texts 54 = .ok (.if_icmp .ne 40, 3) := by decide +kernel
theorem dL_texts_57 : decode cL_texts 57 = .ok (.ldc2_w 131, 3) := by decide +kernel
theorem dL_texts_60 : decode cL_texts 60 = .ok (.lconst 0, 1) := by decide +kernel
theorem dL_texts_61 : decode cL_texts 61 = .ok (.invokestatic 119, 3) := by decide +kernel
theorem dL_texts_64 : decode cL_texts 64 = .ok (.bipush (-104), 2) := by decide +kernel
theorem dL_texts_66 : decode cL_texts 66 = .ok (.if_icmp .ne 28, 3) := by decide +kernel
theorem dL_texts_69 : decode cL_texts 69 = .ok (.ldc2_w 133, 3) := by decide +kernel
theorem dL_texts_72 : decode cL_texts 72 = .ok (.lconst 0, 1) := by decide +kernel
theorem dL_texts_73 : decode cL_texts 73 = .ok (.invokestatic 119, 3) := by decide +kernel
theorem dL_texts_76 : decode cL_texts 76 = .ok (.bipush (-106), 2) := by decide +kernel
theorem dL_texts_78 : decode cL_texts 78 = .ok (.if_icmp .ne 16, 3) := by decide +kernel
theorem dL_texts_81 : decode cL_texts 81 = .ok (.ldc2_w 135, 3) := by decide +kernel
theorem dL_texts_84 : decode cL_texts 84 = .ok (.ldc2_w 137, 3) := by decide +kernel
theorem dL_texts_87 : decode cL_texts 87 = .ok (.invokestatic 119, 3) := by decide +kernel
theorem dL_texts_90 : decode cL_texts 90 = .ok (.iconst 1, 1) := by decide +kernel
theorem dL_texts_91 : decode cL_texts 91 = .ok (.if_icmp .eq 5, 3) := by decide +kernel
theorem dL_texts_94 : decode cL_texts 94 = .ok (.iconst 0, 1) := by decide +kernel
theorem dL_texts_95 : decode cL_texts 95 = .ok (.ireturn, 1) := by decide +kernel
theorem dL_texts_96 : decode cL_texts 96 = .ok (.ldc2_w 139, 3) := by decide +kernel
theorem dL_texts_99 : decode cL_texts 99 = .ok (.lconst 0, 1) := by decide +kernel
theorem dL_texts_100 : decode cL_texts 100 = .ok (.invokestatic 119, 3) := by decide +kernel
theorem dL_texts_103 : decode cL_texts 103 = .ok (.bipush (-102), 2) := by decide +kernel
theorem dL_texts_105 : decode cL_texts 105 = .ok (.if_icmp .ne 66, 3) := by decide +kernel
theorem dL_texts_108 : decode cL_texts 108 = .ok (.ldc2_w 141, 3) := by decide +kernel
theorem dL_texts_111 : decode cL_texts 111 = .ok (.ldc2_w 143, 3) := by decide +kernel
theorem dL_texts_114 : decode cL_texts 114 = .ok (.invokestatic 119, 3) := by decide +kernel
theorem dL_texts_117 : decode cL_texts 117 = .ok (.bipush (-108), 2) := by decide +kernel
theorem dL_texts_119 : decode cL_texts 119 = .ok (.if_icmp .ne 52, 3) := by decide +kernel
theorem dL_texts_122 : decode cL_texts 122 = .ok (.ldc2_w 145, 3) := by decide +kernel
theorem dL_texts_125 : decode cL_texts 125 = .ok (.lconst 0, 1) := by decide +kernel
theorem dL_texts_126 : decode cL_texts 126 = .ok (.invokestatic 119, 3) := by decide +kernel
theorem dL_texts_129 : decode cL_texts 129 = .ok (.bipush (-102), 2) := by decide +kernel
theorem dL_texts_131 : decode cL_texts 131 = .ok (.if_icmp .ne 40, 3) := by decide +kernel
theorem dL_texts_134 : decode cL_texts 134 = .ok (.ldc2_w 147, 3) := by decide +kernel
theorem dL_texts_137 : decode cL_texts 137 = .ok (.lconst 0, 1) := by decide +kernel
theorem dL_texts_138 : decode cL_texts 138 = .ok (.invokestatic 119, 3) := by decide +kernel
theorem dL_texts_141 : decode cL_texts 141 = .ok (.bipush (-100), 2) := by decide +kernel
theorem dL_texts_143 : decode cL_texts 143 = .ok (.if_icmp .ne 28, 3) := by decide +kernel
theorem dL_texts_146 : decode cL_texts 146 = .ok (.ldc2_w 149, 3) := by decide +kernel
theorem dL_texts_149 : decode cL_texts 149 = .ok (.ldc2_w 151, 3) := by decide +kernel
theorem dL_texts_152 : decode cL_texts 152 = .ok (.invokestatic 119, 3) := by decide +kernel
theorem dL_texts_155 : decode cL_texts 155 = .ok (.iconst 3, 1) := by decide +kernel
theorem dL_texts_156 : decode cL_texts 156 = .ok (.if_icmp .ne 15, 3) := by decide +kernel
theorem dL_texts_159 : decode cL_texts 159 = .ok (.ldc2_w 153, 3) := by decide +kernel
theorem dL_texts_162 : decode cL_texts 162 = .ok (.lconst 0, 1) := by decide +kernel
theorem dL_texts_163 : decode cL_texts 163 = .ok (.invokestatic 119, 3) := by decide +kernel
theorem dL_texts_166 : decode cL_texts 166 = .ok (.bipush (-101), 2) := by decide +kernel
theorem dL_texts_168 : decode cL_texts 168 = .ok (.if_icmp .eq 5, 3) := by decide +kernel
theorem dL_texts_171 : decode cL_texts 171 = .ok (.iconst 0, 1) := by decide +kernel
theorem dL_texts_172 : decode cL_texts 172 = .ok (.ireturn, 1) := by decide +kernel
theorem dL_texts_173 : decode cL_texts 173 = .ok (.new 10, 3) := by decide +kernel
theorem dL_texts_176 : decode cL_texts 176 = .ok (.dup, 1) := by decide +kernel
theorem dL_texts_177 : decode cL_texts 177 = .ok (.invokespecial 114, 3) := by decide +kernel
theorem dL_texts_180 : decode cL_texts 180 = .ok (.astore_n 0, 1) := by decide +kernel
theorem dL_texts_181 : decode cL_texts 181 = .ok (.aload_n 0, 1) := by decide +kernel
theorem dL_texts_182 : decode cL_texts 182 = .ok (.ldc2_w 155, 3) := by decide +kernel
theorem dL_texts_185 : decode cL_texts 185 = .ok (.invokestatic 115, 3) := by decide +kernel
theorem dL_texts_188 : decode cL_texts 188 = .ok (.ifCond .eq 124, 3) := by decide +kernel
theorem dL_texts_191 : decode cL_texts 191 = .ok (.aload_n 0, 1) := by decide +kernel
theorem dL_texts_192 : decode cL_texts 192 = .ok (.ldc2_w 157, 3) := by decide +kernel
theorem dL_texts_195 : decode cL_texts 195 = .ok (.invokestatic 115, 3) := by decide +kernel
theorem dL_texts_198 : decode cL_texts 198 = .ok (.ifCond .eq 114, 3) := by decide +kernel
theorem dL_texts_201 : decode cL_texts 201 = .ok (.aload_n 0, 1) := by decide +kernel
theorem dL_texts_202 : decode cL_texts 202 = .ok (.ldc2_w 159, 3) := by decide +kernel
theorem dL_texts_205 : decode cL_texts 205 = .ok (.invokestatic 115, 3) := by decide +kernel
theorem dL_texts_208 : decode cL_texts 208 = .ok (.ifCond .eq 104, 3) := by decide +kernel
theorem dL_texts_211 : decode cL_texts 211 = .ok (.aload_n 0, 1) := by decide +kernel
theorem dL_texts_212 : decode cL_texts 212 = .ok (.ldc2_w 161, 3) := by decide +kernel
theorem dL_texts_215 : decode cL_texts 215 = .ok (.invokestatic 115, 3) := by decide +kernel
theorem dL_texts_218 : decode cL_texts 218 = .ok (.ifCond .eq 94, 3) := by decide +kernel
theorem dL_texts_221 : decode cL_texts 221 = .ok (.aload_n 0, 1) := by decide +kernel
theorem dL_texts_222 : decode cL_texts 222 = .ok (.iconst 0, 1) := by decide +kernel
theorem dL_texts_223 : decode cL_texts 223 = .ok (.invokevirtual 41, 3) := by decide +kernel
theorem dL_texts_226 : decode cL_texts 226 = .ok (.iconst 4, 1) := by decide +kernel
theorem dL_texts_227 : decode cL_texts 227 = .ok (.if_icmp .ne 85, 3) := by decide +kernel
theorem dL_texts_230 : decode cL_texts 230 = .ok (.aload_n 0, 1) := by decide +kernel
theorem dL_texts_231 : decode cL_texts 231 = .ok (.iconst 0, 1) := by decide +kernel
theorem dL_texts_232 : decode cL_texts 232 = .ok (.iconst 0, 1) := by decide +kernel
theorem dL_texts_233 : decode cL_texts 233 = .ok (.invokevirtual 9, 3) := by decide +kernel
theorem dL_texts_236 : decode cL_texts 236 = .ok (.ldc2_w 163, 3) := by decide +kernel
theorem dL_texts_239 : decode cL_texts 239 = .ok (.dcmp .l, 1) := by decide +kernel
theorem dL_texts_240 : decode cL_texts 240 = .ok (.ifCond .ne 72, 3) := by decide +kernel
theorem dL_texts_243 : decode cL_texts 243 = .ok (.aload_n 0, 1) := by decide +kernel
theorem dL_texts_244 : decode cL_texts 244 = .ok (.iconst 0, 1) := by decide +kernel
theorem dL_texts_245 : decode cL_texts 245 = .ok (.iconst 1, 1) := by decide +kernel
theorem dL_texts_246 : decode cL_texts 246 = .ok (.invokevirtual 9, 3) := by decide +kernel
theorem dL_texts_249 : decode cL_texts 249 = .ok (.ldc2_w 165, 3) := by decide +kernel
theorem dL_texts_252 : decode cL_texts 252 = .ok (.dcmp .l, 1) := by decide +kernel
theorem dL_texts_253 : decode cL_texts 253 = .ok (.ifCond .ne 59, 3) := by decide +kernel
theorem dL_texts_256 : decode cL_texts 256 = .ok (.aload_n 0, 1) := by decide +kernel
theorem dL_texts_257 : decode cL_texts 257 = .ok (.iconst 0, 1) := by decide +kernel
theorem dL_texts_258 : decode cL_texts 258 = .ok (.iconst 2, 1) := by decide +kernel
theorem dL_texts_259 : decode cL_texts 259 = .ok (.invokevirtual 9, 3) := by decide +kernel
theorem dL_texts_262 : decode cL_texts 262 = .ok (.dconst 0, 1) := by decide +kernel
theorem dL_texts_263 : decode cL_texts 263 = .ok (.dcmp .l, 1) := by decide +kernel
theorem dL_texts_264 : decode cL_texts 264 = .ok (.ifCond .ne 48, 3) := by decide +kernel
theorem dL_texts_267 : decode cL_texts 267 = .ok (.dconst 1, 1) := by decide +kernel
theorem dL_texts_268 : decode cL_texts 268 = .ok (.aload_n 0, 1) := by decide +kernel
theorem dL_texts_269 : decode cL_texts 269 = .ok (.iconst 0, 1) := by decide +kernel
theorem dL_texts_270 : decode cL_texts 270 = .ok (.iconst 2, 1) := by decide +kernel
theorem dL_texts_271 : decode cL_texts 271 = .ok (.invokevirtual 9, 3) := by decide +kernel
theorem dL_texts_274 : decode cL_texts 274 = .ok (.ddiv, 1) := by decide +kernel
theorem dL_texts_275 : decode cL_texts 275 = .ok (.dconst 0, 1) := by decide +kernel
theorem dL_texts_276 : decode cL_texts 276 = .ok (.dcmp .g, 1) := by decide +kernel
theorem dL_texts_277 : decode cL_texts 277 = .ok (.ifCond .lt 35, 3) := by decide +kernel
theorem dL_texts_280 : decode cL_texts 280 = .ok (.aload_n 0, 1) := by decide +kernel
theorem dL_texts_281 : decode cL_texts 281 = .ok (.iconst 0, 1) := by decide +kernel
theorem dL_texts_282 : decode cL_texts 282 = .ok (.iconst 3, 1) := by decide +kernel
theorem dL_texts_283 : decode cL_texts 283 = .ok (.invokevirtual 9, 3) := by decide +kernel
theorem dL_texts_286 : decode cL_texts 286 = .ok (.ldc2_w 167, 3) := by decide +kernel
theorem dL_texts_289 : decode cL_texts 289 = .ok (.dcmp .l, 1) := by decide +kernel
theorem dL_texts_290 : decode cL_texts 290 = .ok (.ifCond .ne 22, 3) := by decide +kernel
theorem dL_texts_293 : decode cL_texts 293 = .ok (.aload_n 0, 1) := by decide +kernel
theorem dL_texts_294 : decode cL_texts 294 = .ok (.iconst 5, 1) := by decide +kernel
theorem dL_texts_295 : decode cL_texts 295 = .ok (.invokevirtual 33, 3) := by decide +kernel
theorem dL_texts_298 : decode cL_texts 298 = .ok (.bipush 25, 2) := by decide +kernel
theorem dL_texts_300 : decode cL_texts 300 = .ok (.if_icmp .ne 12, 3) := by decide +kernel
theorem dL_texts_303 : decode cL_texts 303 = .ok (.aload_n 0, 1) := by decide +kernel
theorem dL_texts_304 : decode cL_texts 304 = .ok (.invokevirtual 169, 3) := by decide +kernel
theorem dL_texts_307 : decode cL_texts 307 = .ok (.bipush 25, 2) := by decide +kernel
theorem dL_texts_309 : decode cL_texts 309 = .ok (.if_icmp .eq 5, 3) := by decide +kernel
theorem dL_texts_312 : decode cL_texts 312 = .ok (.iconst 0, 1) := by decide +kernel
theorem dL_texts_313 : decode cL_texts 313 = .ok (.ireturn, 1) := by decide +kernel
theorem dL_texts_314 : decode cL_texts 314 = .ok (.iconst 0, 1) := by decide +kernel
theorem dL_texts_315 : decode cL_texts 315 = .ok (.istore_n 1, 1) := by decide +kernel
theorem dL_texts_316 : decode cL_texts 316 = .ok (.iload_n 1, 1) := by decide +kernel
theorem dL_texts_317 : decode cL_texts 317 = .ok (.bipush 33, 2) := by decide +kernel
theorem dL_texts_319 : decode cL_texts 319 = .ok (.if_icmp .ge 34, 3) := by decide +kernel
theorem dL_texts_322 : decode cL_texts 322 = .ok (.aload_n 0, 1) := by decide +kernel
theorem dL_texts_323 : decode cL_texts 323 = .ok (.iload_n 1, 1) := by decide +kernel
theorem dL_texts_324 : decode cL_texts 324 = .ok (.iconst 2, 1) := by decide +kernel
theorem dL_texts_325 : decode cL_texts 325 = .ok (.irem, 1) := by decide +kernel
theorem dL_texts_326 : decode cL_texts 326 = .ok (.ifCond .ne 8, 3) := by decide +kernel
theorem dL_texts_329 : decode cL_texts 329 = .ok (.bipush 49, 2) := by decide +kernel
theorem dL_texts_331 : decode cL_texts 331 = .ok (.goto 5, 3) := by decide +kernel
theorem dL_texts_334 : decode cL_texts 334 = .ok (.bipush 44, 2) := by decide +kernel
theorem dL_texts_336 : decode cL_texts 336 = .ok (.invokevirtual 110, 3) := by decide +kernel
theorem dL_texts_339 : decode cL_texts 339 = .ok (.iload_n 1, 1) := by decide +kernel
theorem dL_texts_340 : decode cL_texts 340 = .ok (.iconst 1, 1) := by decide +kernel
theorem dL_texts_341 : decode cL_texts 341 = .ok (.iadd, 1) := by decide +kernel
theorem dL_texts_342 : decode cL_texts 342 = .ok (.if_icmp .eq 5, 3) := by decide +kernel
theorem dL_texts_345 : decode cL_texts 345 = .ok (.iconst 0, 1) := by decide +kernel
theorem dL_texts_346 : decode cL_texts 346 = .ok (.ireturn, 1) := by decide +kernel
theorem dL_texts_347 : decode cL_texts 347 = .ok (.iinc 1 1, 3) := by decide +kernel
theorem dL_texts_350 : decode cL_texts 350 = .ok (.goto (-34), 3) := by decide +kernel
theorem dL_texts_353 : decode cL_texts 353 = .ok (.aload_n 0, 1) := by decide +kernel
theorem dL_texts_354 : decode cL_texts 354 = .ok (.iconst 0, 1) := by decide +kernel
theorem dL_texts_355 : decode cL_texts 355 = .ok (.invokevirtual 41, 3) := by decide +kernel
theorem dL_texts_358 : decode cL_texts 358 = .ok (.bipush (-3), 2) := by decide +kernel
theorem dL_texts_360 : decode cL_texts 360 = .ok (.if_icmp .ne 28, 3) := by decide +kernel
theorem dL_texts_363 : decode cL_texts 363 = .ok (.aload_n 0, 1) := by decide +kernel
theorem dL_texts_364 : decode cL_texts 364 = .ok (.iconst 0, 1) := by decide +kernel
theorem dL_texts_365 : decode cL_texts 365 = .ok (.invokevirtual 33, 3) := by decide +kernel
theorem dL_texts_368 : decode cL_texts 368 = .ok (.iconst 4, 1) := by decide +kernel
theorem dL_texts_369 : decode cL_texts 369 = .ok (.if_icmp .ne 19, 3) := by decide +kernel
theorem dL_texts_372 : decode cL_texts 372 = .ok (.aload_n 0, 1) := by decide +kernel
theorem dL_texts_373 : decode cL_texts 373 = .ok (.invokevirtual 169, 3) := by decide +kernel
theorem dL_texts_376 : decode cL_texts 376 = .ok (.bipush 33, 2) := by decide +kernel
theorem dL_texts_378 : decode cL_texts 378 = .ok (.if_icmp .ne 10, 3) := by decide +kernel
theorem dL_texts_381 : decode cL_texts 381 = .ok (.aload_n 0, 1) := by decide +kernel
theorem dL_texts_382 : decode cL_texts 382 = .ok (.invokevirtual 169, 3) := by decide +kernel
theorem dL_texts_385 : decode cL_texts 385 = .ok (.ifCond .eq 5, 3) := by decide +kernel
theorem dL_texts_388 : decode cL_texts 388 = .ok (.iconst 0, 1) := by decide +kernel
theorem dL_texts_389 : decode cL_texts 389 = .ok (.ireturn, 1) := by decide +kernel
theorem dL_texts_390 : decode cL_texts 390 = .ok (.iconst 1, 1) := by decide +kernel
theorem dL_texts_391 : decode cL_texts 391 = .ok (.istore_n 1, 1) := by decide +kernel
theorem dL_texts_392 : decode cL_texts 392 = .ok (.iload_n 1, 1) := by decide +kernel
theorem dL_texts_393 : decode cL_texts 393 = .ok (.bipush 60, 2) := by decide +kernel
theorem dL_texts_395 : decode cL_texts 395 = .ok (.if_icmp .gt 21, 3) := by decide +kernel
theorem dL_texts_398 : decode cL_texts 398 = .ok (.aload_n 0, 1) := by decide +kernel
theorem dL_texts_399 : decode cL_texts 399 = .ok (.bipush 57, 2) := by decide +kernel
theorem dL_texts_401 : decode cL_texts 401 = .ok (.invokevirtual 110, 3) := by decide +kernel
theorem dL_texts_404 : decode cL_texts 404 = .ok (.iload_n 1, 1) := by decide +kernel
theorem dL_texts_405 : decode cL_texts 405 = .ok (.if_icmp .eq 5, 3) := by decide +kernel
theorem dL_texts_408 : decode cL_texts 408 = .ok (.iconst 0, 1) := by decide +kernel
theorem dL_texts_409 : decode cL_texts 409 = .ok (.ireturn, 1) := by decide +kernel
theorem dL_texts_410 : decode cL_texts 410 = .ok (.iinc 1 1, 3) := by decide +kernel
theorem dL_texts_413 : decode cL_texts 413 = .ok (.goto (-21), 3) := by decide +kernel
theorem dL_texts_416 : decode cL_texts 416 = .ok (.aload_n 0, 1) := by decide +kernel
theorem dL_texts_417 : decode cL_texts 417 = .ok (.bipush 57, 2) := by decide +kernel
theorem dL_texts_419 : decode cL_texts 419 = .ok (.invokevirtual 110, 3) := by decide +kernel
theorem dL_texts_422 : decode cL_texts 422 = .ok (.bipush (-3), 2) := by decide +kernel
theorem dL_texts_424 : decode cL_texts 424 = .ok (.if_icmp .ne 24, 3) := by decide +kernel
theorem dL_texts_427 : decode cL_texts 427 = .ok (.aload_n 0, 1) := by decide +kernel
theorem dL_texts_428 : decode cL_texts 428 = .ok (.iconst 1, 1) := by decide +kernel
theorem dL_texts_429 : decode cL_texts 429 = .ok (.invokevirtual 41, 3) := by decide +kernel
theorem dL_texts_432 : decode cL_texts 432 = .ok (.bipush (-106), 2) := by decide +kernel
theorem dL_texts_434 : decode cL_texts 434 = .ok (.if_icmp .ne 14, 3) := by decide +kernel
theorem dL_texts_437 : decode cL_texts 437 = .ok (.aload_n 0, 1) := by decide +kernel
theorem dL_texts_438 : decode cL_texts 438 = .ok (.invokestatic 173, 3) := by decide +kernel
theorem dL_texts_441 : decode cL_texts 441 = .ok (.ifCond .eq 7, 3) := by decide +kernel
theorem dL_texts_444 : decode cL_texts 444 = .ok (.iconst 1, 1) := by decide +kernel
theorem dL_texts_445 : decode cL_texts 445 = .ok (.goto 4, 3) := by decide +kernel
theorem dL_texts_448 : decode cL_texts 448 = .ok (.iconst 0, 1) := by decide +kernel
theorem dL_texts_449 : decode cL_texts 449 = .ok (.ireturn, 1) := by decide +kernel
set_option maxRecDepth 20000 in
theorem ggL_halves_X8_init : GoodIn wsL_halves wsX8_init := goodIn_r _ [21, 22, 23, 24, 25, 26, 27, 28, 29, 30, 31, 32, 33, 34, 35, 36, 37, 38, 39, 40, 41, 42, 43, 44, 45, 46, 47, 48, 49, 50, 51, 52, 53, 54, 55, 56, 57, 58, 59, 60, 61, 62, 63, 64, 65, 66, 67, 68, 69, 70, 71, 72, 73, 74, 75, 76, 77, 78, 79, 80, 81, 82, 83, 84, 85, 86, 87, 88, 89, 90, 91, 92, 93, 94, 95, 484, 485, 486, 487, 477, 478, 479, 480, 481, 482, 483, 488, 489, 490, 491, 492, 493, 494, 495, 496, 497, 498, 499, 500, 501, 502, 503, 504, 505, 506] (by decide +kernel) (by decide +kernel)
set_option maxRecDepth 20000 in
theorem gL_halves_X8_init : GoodIn wsL_halves (wsX8_init) := ggL_halves_X8_init
set_option maxRecDepth 20000 in
theorem ggL_halves_X8_undo : GoodIn wsL_halves wsX8_undo := goodIn_r _ [99, 34, 100, 28, 101, 102, 103, 33, 104, 72, 70, 71, 105, 106, 107, 27, 108, 52, 53, 55, 109, 110, 111, 112, 56, 113, 114, 115, 45, 116, 63, 117, 64, 477, 478, 479, 480, 481, 482, 483, 488, 489, 490, 484, 485, 486, 487, 505, 506] (by decide +kernel) (by decide +kernel)
set_option maxRecDepth 20000 in
theorem gL_halves_X8_undo : GoodIn wsL_halves (wsV RL 177 RX8 yX8_undo wsX8_undo) := goodIn_app (goodIn_of _ (by decide +kernel)) ggL_halves_X8_undo
set_option maxRecDepth 20000 in
theorem ggL_halves_X8_restore : GoodIn wsL_halves wsX8_restore := goodIn_r _ [121, 30, 34, 28, 29, 122, 123, 124, 33, 125, 72, 71, 70, 105, 106, 107, 27, 108, 52, 53, 55, 109, 110, 111, 112, 56, 113, 114, 115, 45, 116, 63, 117, 64, 126, 127, 128, 129, 130, 131, 477, 478, 479, 480, 481, 482, 483, 488, 489, 490, 484, 485, 486, 487, 505, 506] (by decide +kernel) (by decide +kernel)
set_option maxRecDepth 20000 in
theorem gL_halves_X8_restore : GoodIn wsL_halves (wsV RL 180 RX8 yX8_restore wsX8_restore) := goodIn_app (goodIn_of _ (by decide +kernel)) ggL_halves_X8_restore
set_option maxRecDepth 20000 in
theorem ggL_halves_X8_sum : GoodIn wsL_halves wsX8_sum := goodIn_r _ [135, 28, 136, 46, 137, 138, 3, 139, 140, 141, 142, 27, 143, 52, 53, 144, 145, 146, 147, 148, 149, 150, 151, 152, 153, 154, 155, 156, 157, 158, 45, 159, 64, 63, 160, 161, 162, 163, 34, 122, 123, 124, 33, 125, 72, 71, 70, 105, 106, 107, 108, 55, 109, 110, 111, 112, 56, 113, 114, 115, 116, 117, 164, 477, 478, 479, 480, 481, 482, 483, 505, 506, 484, 485, 486, 487, 488, 489, 490] (by decide +kernel) (by decide +kernel)
set_option maxRecDepth 20000 in
theorem gL_halves_X8_sum : GoodIn wsL_halves (wsV RL 48 RX8 yX8_sum wsX8_sum) := goodIn_app (goodIn_of _ (by decide +kernel)) ggL_halves_X8_sum
set_option maxRecDepth 20000 in
theorem ggL_halves_X8_differences : GoodIn wsL_halves wsX8_differences := goodIn_r _ [168, 28, 136, 46, 137, 138, 3, 139, 140, 141, 142, 27, 143, 52, 53, 169, 170, 146, 171, 148, 149, 150, 151, 152, 153, 154, 155, 156, 157, 158, 45, 159, 64, 63, 160, 161, 162, 163, 34, 122, 123, 124, 33, 125, 72, 71, 70, 105, 106, 107, 108, 55, 109, 110, 111, 112, 56, 113, 114, 115, 116, 117, 164, 477, 478, 479, 480, 481, 482, 483, 505, 506, 484, 485, 486, 487, 488, 489, 490] (by decide +kernel) (by decide +kernel)
set_option maxRecDepth 20000 in
theorem gL_halves_X8_differences : GoodIn wsL_halves (wsV RL 51 RX8 yX8_differences wsX8_differences) := goodIn_app (goodIn_of _ (by decide +kernel)) ggL_halves_X8_differences
set_option maxRecDepth 20000 in
theorem ggL_halves_X8_take : GoodIn wsL_halves wsX8_take := goodIn_r _ [175, 42, 28, 46, 136, 176, 177, 3, 178, 137, 138, 139, 179, 180, 181, 41, 182, 88, 183, 89, 90, 184, 91, 185, 92, 186, 187, 141, 142, 27, 143, 52, 53, 188, 189, 190, 191, 85, 87, 192, 193, 194, 195, 196, 197, 198, 199, 200, 201, 202, 203, 204, 205, 206, 207, 208, 209, 152, 210, 211, 212, 213, 214, 215, 216, 217, 218, 219, 220, 221, 222, 223, 224, 225, 226, 227, 228, 229, 230, 231, 232, 233, 234, 235, 236, 237, 238, 239, 240, 241, 242, 243, 244, 245, 246, 247, 248, 249, 250, 251, 252, 151, 153, 154, 155, 253, 157, 158, 45, 159, 64, 63, 160, 161, 162, 163, 34, 122, 123, 124, 33, 125, 72, 71, 70, 105, 106, 107, 108, 55, 109, 110, 111, 112, 56, 113, 114, 115, 116, 117, 140, 164, 477, 478, 479, 480, 481, 482, 483, 505, 506, 495, 496, 497, 498, 499, 500, 501, 502, 503, 504, 484, 485, 486, 487, 488, 489, 490] (by decide +kernel) (by decide +kernel)
set_option maxRecDepth 20000 in
theorem gL_halves_X8_take : GoodIn wsL_halves (wsV RL 54 RX8 yX8_take wsX8_take) := goodIn_app (goodIn_of _ (by decide +kernel)) ggL_halves_X8_take
set_option maxRecDepth 20000 in
theorem ggL_halves_X8_best : GoodIn wsL_halves wsX8_best := goodIn_r _ [257, 42, 28, 258, 259, 137, 138, 3, 139, 179, 180, 181, 41, 182, 88, 183, 89, 90, 184, 91, 185, 92, 186, 187, 141, 142, 27, 143, 52, 53, 188, 189, 190, 191, 85, 87, 192, 193, 194, 195, 196, 197, 198, 199, 200, 201, 202, 203, 204, 205, 206, 207, 208, 209, 152, 210, 211, 212, 213, 214, 215, 216, 217, 218, 219, 220, 221, 222, 223, 224, 225, 226, 227, 228, 229, 230, 231, 232, 233, 234, 235, 260, 261, 262, 263, 93, 94, 95, 264, 265, 266, 267, 240, 241, 242, 243, 244, 245, 246, 247, 248, 249, 250, 251, 477, 478, 479, 480, 481, 482, 483, 495, 496, 497, 498, 499, 500, 501, 502, 503, 504, 484, 485, 486, 487, 505, 506] (by decide +kernel) (by decide +kernel)
set_option maxRecDepth 20000 in
theorem gL_halves_X8_best : GoodIn wsL_halves (wsV RL 96 RX8 yX8_best wsX8_best) := goodIn_app (goodIn_of _ (by decide +kernel)) ggL_halves_X8_best
set_option maxRecDepth 20000 in
theorem ggL_halves_X8_count : GoodIn wsL_halves wsX8_count := goodIn_r _ [271, 28, 136, 272, 34, 100, 38, 273, 140, 141, 142, 27, 143, 52, 53, 274, 275, 276, 3, 277, 42, 179, 180, 181, 41, 182, 88, 183, 89, 90, 184, 91, 185, 92, 186, 187, 188, 189, 190, 191, 85, 87, 192, 193, 194, 195, 196, 197, 198, 199, 200, 201, 202, 203, 204, 205, 206, 207, 208, 209, 152, 210, 211, 212, 213, 214, 215, 216, 217, 218, 219, 220, 221, 222, 223, 224, 225, 226, 227, 228, 229, 230, 231, 232, 233, 234, 235, 278, 279, 280, 281, 282, 283, 284, 285, 286, 287, 288, 289, 244, 245, 246, 247, 477, 478, 479, 480, 481, 482, 483, 505, 506, 484, 485, 486, 487, 488, 489, 490, 491, 492, 493, 494, 495, 496, 497, 498, 499, 500, 501, 502, 503, 504] (by decide +kernel) (by decide +kernel)
set_option maxRecDepth 20000 in
theorem gL_halves_X8_count : GoodIn wsL_halves (wsV RL 33 RX8 yX8_count wsX8_count) := goodIn_app (goodIn_of _ (by decide +kernel)) ggL_halves_X8_count
set_option maxRecDepth 20000 in
theorem ggL_halves_X8_table : GoodIn wsL_halves wsX8_table := goodIn_r _ [293, 42, 28, 258, 294, 176, 177, 3, 178, 137, 138, 139, 179, 180, 181, 41, 182, 88, 183, 89, 90, 184, 91, 185, 92, 186, 187, 141, 142, 27, 143, 52, 53, 188, 189, 190, 191, 85, 87, 192, 193, 194, 195, 196, 197, 198, 199, 200, 201, 202, 203, 204, 205, 206, 207, 208, 209, 152, 210, 211, 212, 213, 214, 215, 216, 217, 218, 219, 220, 221, 222, 223, 224, 225, 226, 227, 228, 229, 230, 231, 232, 233, 234, 235, 295, 296, 297, 298, 278, 279, 280, 281, 282, 283, 284, 285, 286, 287, 288, 289, 244, 245, 246, 247, 299, 300, 301, 302, 303, 304, 305, 306, 260, 261, 262, 263, 93, 94, 95, 264, 265, 266, 267, 240, 241, 242, 243, 248, 249, 250, 251, 477, 478, 479, 480, 481, 482, 483, 495, 496, 497, 498, 499, 500, 501, 502, 503, 504, 484, 485, 486, 487, 505, 506] (by decide +kernel) (by decide +kernel)
set_option maxRecDepth 20000 in
theorem gL_halves_X8_table : GoodIn wsL_halves (wsV RL 84 RX8 yX8_table wsX8_table) := goodIn_app (goodIn_of _ (by decide +kernel)) ggL_halves_X8_table
set_option maxRecDepth 20000 in
theorem ggL_halves_X8_fill : GoodIn wsL_halves wsX8_fill := goodIn_r _ [310, 46, 28, 311, 137, 138, 3, 139, 312, 313, 146, 314, 148, 315, 316, 317, 318, 156, 157, 158, 45, 159, 64, 63, 160, 161, 162, 163, 34, 136, 122, 123, 124, 33, 125, 72, 71, 70, 105, 106, 107, 27, 108, 52, 53, 55, 109, 110, 111, 112, 56, 113, 114, 115, 116, 117, 140, 141, 142, 143, 164, 477, 478, 479, 480, 481, 482, 483, 484, 485, 486, 487, 505, 506, 488, 489, 490] (by decide +kernel) (by decide +kernel)
set_option maxRecDepth 20000 in
theorem gL_halves_X8_fill : GoodIn wsL_halves (wsV RL 44 RX8 yX8_fill wsX8_fill) := goodIn_app (goodIn_of _ (by decide +kernel)) ggL_halves_X8_fill
set_option maxRecDepth 20000 in
theorem ggL_halves_X8_number : GoodIn wsL_halves wsX8_number := goodIn_r _ [322, 28, 323, 137, 138, 3, 139, 140, 141, 142, 27, 143, 52, 53, 324, 325, 326, 45, 327, 64, 328, 329, 330, 331, 477, 478, 479, 480, 481, 482, 483, 505, 506, 484, 485, 486, 487] (by decide +kernel) (by decide +kernel)
set_option maxRecDepth 20000 in
theorem gL_halves_X8_number : GoodIn wsL_halves (wsV RL 9 RX8 yX8_number wsX8_number) := goodIn_app (goodIn_of _ (by decide +kernel)) ggL_halves_X8_number
set_option maxRecDepth 20000 in
theorem ggL_halves_X8_entry : GoodIn wsL_halves wsX8_entry := goodIn_r _ [335, 42, 28, 176, 177, 3, 178, 137, 138, 139, 328, 329, 330, 331, 179, 180, 181, 41, 182, 88, 183, 89, 90, 184, 91, 185, 92, 186, 187, 141, 142, 27, 143, 52, 53, 188, 189, 190, 191, 85, 87, 192, 193, 194, 195, 196, 197, 198, 199, 200, 201, 202, 203, 204, 205, 206, 207, 208, 209, 152, 210, 211, 212, 213, 214, 215, 216, 217, 218, 219, 220, 221, 222, 223, 224, 225, 226, 227, 228, 229, 230, 231, 232, 233, 234, 235, 336, 337, 338, 339, 340, 241, 242, 243, 244, 245, 246, 247, 341, 249, 250, 251, 477, 478, 479, 480, 481, 482, 483, 495, 496, 497, 498, 499, 500, 501, 502, 503, 504, 484, 485, 486, 487, 505, 506] (by decide +kernel) (by decide +kernel)
set_option maxRecDepth 20000 in
theorem gL_halves_X8_entry : GoodIn wsL_halves (wsV RL 76 RX8 yX8_entry wsX8_entry) := goodIn_app (goodIn_of _ (by decide +kernel)) ggL_halves_X8_entry
set_option maxRecDepth 20000 in
theorem ggL_halves_X8_kind : GoodIn wsL_halves wsX8_kind := goodIn_r _ [345, 42, 28, 176, 177, 3, 178, 137, 138, 139, 179, 180, 181, 41, 182, 88, 183, 89, 90, 184, 91, 185, 92, 186, 187, 141, 142, 27, 143, 52, 53, 188, 189, 190, 191, 85, 87, 192, 193, 194, 195, 196, 197, 198, 199, 200, 201, 202, 203, 204, 205, 206, 207, 208, 209, 152, 210, 211, 212, 213, 214, 215, 216, 217, 218, 219, 220, 221, 222, 223, 224, 225, 226, 227, 228, 229, 230, 231, 232, 233, 234, 235, 336, 337, 338, 339, 346, 245, 246, 247, 477, 478, 479, 480, 481, 482, 483, 495, 496, 497, 498, 499, 500, 501, 502, 503, 504, 484, 485, 486, 487, 505, 506] (by decide +kernel) (by decide +kernel)
set_option maxRecDepth 20000 in
theorem gL_halves_X8_kind : GoodIn wsL_halves (wsV RL 80 RX8 yX8_kind wsX8_kind) := goodIn_app (goodIn_of _ (by decide +kernel)) ggL_halves_X8_kind
set_option maxRecDepth 20000 in
theorem ggL_halves_X8_guess : GoodIn wsL_halves wsX8_guess := goodIn_r _ [350, 28, 136, 176, 177, 3, 178, 137, 138, 139, 140, 141, 142, 27, 143, 52, 53, 328, 329, 330, 331, 351, 352, 353, 354, 42, 258, 355, 179, 180, 181, 41, 182, 88, 183, 89, 90, 184, 91, 185, 92, 186, 187, 188, 189, 190, 191, 85, 87, 192, 193, 194, 195, 196, 197, 198, 199, 200, 201, 202, 203, 204, 205, 206, 207, 208, 209, 152, 210, 211, 212, 213, 214, 215, 216, 217, 218, 219, 220, 221, 222, 223, 224, 225, 226, 227, 228, 229, 230, 231, 232, 233, 234, 235, 260, 261, 262, 263, 93, 94, 95, 264, 265, 266, 267, 240, 241, 242, 243, 244, 245, 246, 247, 248, 249, 250, 251, 477, 478, 479, 480, 481, 482, 483, 505, 506, 484, 485, 486, 487, 495, 496, 497, 498, 499, 500, 501, 502, 503, 504] (by decide +kernel) (by decide +kernel)
set_option maxRecDepth 20000 in
theorem gL_halves_X8_guess : GoodIn wsL_halves (wsV RL 87 RX8 yX8_guess wsX8_guess) := goodIn_app (goodIn_of _ (by decide +kernel)) ggL_halves_X8_guess
set_option maxRecDepth 20000 in
theorem ggL_halves_X8_error : GoodIn wsL_halves wsX8_error := goodIn_r _ [359, 42, 28, 258, 259, 176, 177, 3, 178, 137, 138, 139, 328, 329, 330, 331, 179, 180, 181, 41, 182, 88, 183, 89, 90, 184, 91, 185, 92, 186, 187, 141, 142, 27, 143, 52, 53, 188, 189, 190, 191, 85, 87, 192, 193, 194, 195, 196, 197, 198, 199, 200, 201, 202, 203, 204, 205, 206, 207, 208, 209, 152, 210, 211, 212, 213, 214, 215, 216, 217, 218, 219, 220, 221, 222, 223, 224, 225, 226, 227, 228, 229, 230, 231, 232, 233, 234, 235, 260, 261, 262, 263, 93, 94, 95, 264, 265, 266, 267, 240, 241, 242, 243, 244, 245, 246, 247, 248, 249, 250, 251, 477, 478, 479, 480, 481, 482, 483, 495, 496, 497, 498, 499, 500, 501, 502, 503, 504, 484, 485, 486, 487, 505, 506] (by decide +kernel) (by decide +kernel)
set_option maxRecDepth 20000 in
theorem gL_halves_X8_error : GoodIn wsL_halves (wsV RL 90 RX8 yX8_error wsX8_error) := goodIn_app (goodIn_of _ (by decide +kernel)) ggL_halves_X8_error
set_option maxRecDepth 20000 in
theorem ggL_halves_X8_spread : GoodIn wsL_halves wsX8_spread := goodIn_r _ [363, 28, 136, 137, 138, 3, 139, 140, 141, 142, 27, 143, 52, 53, 328, 329, 330, 331, 351, 352, 353, 354, 42, 258, 355, 179, 180, 181, 41, 182, 88, 183, 89, 90, 184, 91, 185, 92, 186, 187, 188, 189, 190, 191, 85, 87, 192, 193, 194, 195, 196, 197, 198, 199, 200, 201, 202, 203, 204, 205, 206, 207, 208, 209, 152, 210, 211, 212, 213, 214, 215, 216, 217, 218, 219, 220, 221, 222, 223, 224, 225, 226, 227, 228, 229, 230, 231, 232, 233, 234, 235, 260, 261, 262, 263, 93, 94, 95, 264, 265, 266, 267, 240, 241, 242, 243, 244, 245, 246, 247, 248, 249, 250, 251, 477, 478, 479, 480, 481, 482, 483, 505, 506, 484, 485, 486, 487, 495, 496, 497, 498, 499, 500, 501, 502, 503, 504] (by decide +kernel) (by decide +kernel)
set_option maxRecDepth 20000 in
theorem gL_halves_X8_spread : GoodIn wsL_halves (wsV RL 93 RX8 yX8_spread wsX8_spread) := goodIn_app (goodIn_of _ (by decide +kernel)) ggL_halves_X8_spread
set_option maxRecDepth 20000 in
theorem ggL_halves_X8_needed : GoodIn wsL_halves wsX8_needed := goodIn_r _ [367, 42, 28, 258, 259, 176, 177, 3, 178, 137, 138, 139, 368, 369, 370, 371, 372, 373, 374, 375, 376, 377, 378, 379, 380, 381, 382, 383, 384, 385, 179, 180, 181, 41, 182, 88, 183, 89, 90, 184, 91, 185, 92, 186, 187, 141, 142, 27, 143, 52, 53, 188, 189, 190, 191, 85, 87, 192, 193, 194, 195, 196, 197, 198, 199, 200, 201, 202, 203, 204, 205, 206, 207, 208, 209, 152, 210, 211, 212, 213, 214, 215, 216, 217, 218, 219, 220, 221, 222, 223, 224, 225, 226, 227, 228, 229, 230, 231, 232, 233, 234, 235, 260, 261, 262, 263, 93, 94, 95, 264, 265, 266, 267, 240, 241, 242, 243, 244, 245, 246, 247, 248, 249, 250, 251, 477, 478, 479, 480, 481, 482, 483, 495, 496, 497, 498, 499, 500, 501, 502, 503, 504, 484, 485, 486, 487, 505, 506] (by decide +kernel) (by decide +kernel)
set_option maxRecDepth 20000 in
theorem gL_halves_X8_needed : GoodIn wsL_halves (wsV RL 99 RX8 yX8_needed wsX8_needed) := goodIn_app (goodIn_of _ (by decide +kernel)) ggL_halves_X8_needed
set_option maxRecDepth 20000 in
theorem ggL_halves_X8_set : GoodIn wsL_halves wsX8_set := goodIn_r _ [389, 28, 323, 34, 137, 138, 3, 139, 140, 141, 142, 27, 143, 52, 53, 324, 325, 326, 45, 327, 64, 390, 391, 370, 392, 393, 369, 371, 372, 373, 374, 375, 376, 394, 378, 379, 380, 381, 382, 383, 384, 385, 395, 151, 152, 153, 154, 155, 377, 396, 397, 398, 122, 123, 124, 33, 125, 72, 71, 70, 105, 106, 107, 108, 55, 109, 110, 111, 112, 56, 113, 114, 115, 116, 63, 117, 477, 478, 479, 480, 481, 482, 483, 505, 506, 484, 485, 486, 487, 488, 489, 490] (by decide +kernel) (by decide +kernel)
set_option maxRecDepth 20000 in
theorem gL_halves_X8_set : GoodIn wsL_halves (wsV RL 37 RX8 yX8_set wsX8_set) := goodIn_app (goodIn_of _ (by decide +kernel)) ggL_halves_X8_set
set_option maxRecDepth 20000 in
theorem ggL_halves_X8_setting : GoodIn wsL_halves wsX8_setting := goodIn_r _ [402, 28, 311, 34, 403, 404, 27, 405, 368, 369, 370, 371, 372, 373, 374, 375, 376, 406, 407, 408, 409, 377, 378, 379, 380, 381, 382, 383, 384, 385, 410, 411, 412, 413, 414, 415, 416, 122, 123, 124, 33, 125, 72, 71, 70, 105, 106, 107, 108, 52, 53, 55, 109, 110, 111, 112, 56, 113, 114, 115, 45, 116, 63, 117, 64, 477, 478, 479, 480, 481, 482, 483, 484, 485, 486, 487, 488, 489, 490, 505, 506] (by decide +kernel) (by decide +kernel)
set_option maxRecDepth 20000 in
theorem gL_halves_X8_setting : GoodIn wsL_halves (wsV RL 59 RX8 yX8_setting wsX8_setting) := goodIn_app (goodIn_of _ (by decide +kernel)) ggL_halves_X8_setting
theorem dL_halves_0 : decode cL_halves 0 = .ok (.new 10, 3) := by decide +kernel
theorem dL_halves_3 : decode cL_halves 3 = .ok (.dup, 1) := by decide +kernel
theorem dL_halves_4 : decode cL_halves 4 = .ok (.invokespecial 114, 3) := by decide +kernel
theorem dL_halves_7 : decode cL_halves 7 = .ok (.astore_n 0, 1) := by decide +kernel
theorem dL_halves_8 : decode cL_halves 8 = .ok (.aload_n 0, 1) := by decide +kernel
theorem dL_halves_9 : decode cL_halves 9 = .ok (.invokevirtual 177, 3) := by decide +kernel
theorem dL_halves_12 : decode cL_halves 12 = .ok (.bipush (-5), 2) := by decide +kernel
theorem dL_halves_14 : decode cL_halves 14 = .ok (.if_icmp .ne 72, 3) := by decide +kernel
theorem dL_halves_17 : decode cL_halves 17 = .ok (.aload_n 0, 1) := by decide +kernel
theorem dL_halves_18 : decode cL_halves 18 = .ok (.invokevirtual 180, 3) := by decide +kernel
theorem dL_halves_21 : decode cL_halves 21 = .ok (.bipush (-5), 2) := by decide +kernel
theorem dL_halves_23 : decode cL_halves 23 = .ok (.if_icmp .ne 63, 3) := by decide +kernel
theorem dL_halves_26 : decode cL_halves 26 = .ok (.aload_n 0, 1) := by decide +kernel
theorem dL_halves_27 : decode cL_halves 27 = .ok (.iconst 0, 1) := by decide +kernel
theorem dL_halves_28 : decode cL_halves 28 = .ok (.invokevirtual 48, 3) := by decide +kernel
theorem dL_halves_31 : decode cL_halves 31 = .ok (.bipush (-5), 2) := by decide +kernel
theorem dL_halves_33 : decode cL_halves 33 = .ok (.if_icmp .ne 53, 3) := by decide +kernel
theorem dL_halves_36 : decode cL_halves 36 = .ok (.aload_n 0, 1) := by decide +kernel
theorem dL_halves_37 : decode cL_halves 37 = .ok (.iconst 1, 1) := by decide +kernel
theorem dL_halves_38 : decode cL_halves 38 = .ok (.invokevirtual 51, 3) := by decide +kernel
theorem dL_halves_41 : decode cL_halves 41 = .ok (.bipush (-5), 2) := by decide +kernel
theorem dL_halves_43 : decode cL_halves 43 = .ok (.if_icmp .ne 43, 3) := by decide +kernel
theorem dL_halves_46 : decode cL_halves 46 = .ok (.aload_n 0, 1) := by decide +kernel
theorem dL_halves_47 : decode cL_halves 47 = .ok (.iconst 0, 1) := by decide +kernel
theorem dL_halves_48 : decode cL_halves 48 = .ok (.iconst 0, 1) := by decide +kernel
theorem dL_halves_49 : decode cL_halves 49 = .ok (.iconst 0, 1) := by decide +kernel
theorem dL_halves_50 : decode cL_halves 50 = .ok (.invokevirtual 54, 3) := by decide +kernel
theorem dL_halves_53 : decode cL_halves 53 = .ok (.bipush (-4), 2) := by decide +kernel
theorem dL_halves_55 : decode cL_halves 55 = .ok (.if_icmp .ne 31, 3) := by decide +kernel
theorem dL_halves_58 : decode cL_halves 58 = .ok (.aload_n 0, 1) := by decide +kernel
theorem dL_halves_59 : decode cL_halves 59 = .ok (.iconst 0, 1) := by decide +kernel
theorem dL_halves_60 : decode cL_halves 60 = .ok (.invokevirtual 96, 3) := by decide +kernel
theorem dL_halves_63 : decode cL_halves 63 = .ok (.bipush (-5), 2) := by decide +kernel
theorem dL_halves_65 : decode cL_halves 65 = .ok (.if_icmp .ne 21, 3) := by decide +kernel
theorem dL_halves_68 : decode cL_halves 68 = .ok (.aload_n 0, 1) := by decide +kernel
theorem dL_halves_69 : decode cL_halves 69 = .ok (.iconst 3, 1) := by decide +kernel
theorem dL_halves_70 : decode cL_halves 70 = .ok (.invokevirtual 33, 3) := by decide +kernel
theorem dL_halves_73 : decode cL_halves 73 = .ok (.ifCond .ne 13, 3) := by decide +kernel
theorem dL_halves_76 : decode cL_halves 76 = .ok (.aload_n 0, 1) := by decide +kernel
theorem dL_halves_77 : decode cL_halves 77 = .ok (.iconst 0, 1) := by decide +kernel
theorem dL_halves_78 : decode cL_halves 78 = .ok (.iconst 0, 1) := by decide +kernel
theorem dL_halves_79 : decode cL_halves 79 = .ok (.iconst 0, 1) := by decide +kernel
theorem dL_halves_80 : decode cL_halves 80 = .ok (.invokevirtual 84, 3) := by decide +kernel
theorem dL_halves_83 : decode cL_halves 83 = .ok (.ifCond .eq 5, 3) := by decide +kernel
theorem dL_halves_86 : decode cL_halves 86 = .ok (.iconst 0, 1) := by decide +kernel
theorem dL_halves_87 : decode cL_halves 87 = .ok (.ireturn, 1) := by decide +kernel
theorem dL_halves_88 : decode cL_halves 88 = .ok (.aload_n 0, 1) := by decide +kernel
theorem dL_halves_89 : decode cL_halves 89 = .ok (.iconst 0, 1) := by decide +kernel
theorem dL_halves_90 : decode cL_halves 90 = .ok (.iconst 3, 1) := by decide +kernel
theorem dL_halves_91 : decode cL_halves 91 = .ok (.iconst 3, 1) := by decide +kernel
theorem dL_halves_92 : decode cL_halves 92 = .ok (.invokevirtual 44, 3) := by decide +kernel
theorem dL_halves_95 : decode cL_halves 95 = .ok (.iconst 3, 1) := by decide +kernel
theorem dL_halves_96 : decode cL_halves 96 = .ok (.if_icmp .ne 40, 3) := by decide +kernel
theorem dL_halves_99 : decode cL_halves 99 = .ok (.aload_n 0, 1) := by decide +kernel
theorem dL_halves_100 : decode cL_halves 100 = .ok (.iconst 0, 1) := by decide +kernel
theorem dL_halves_101 : decode cL_halves 101 = .ok (.iconst 0, 1) := by decide +kernel
theorem dL_halves_102 : decode cL_halves 102 = .ok (.invokevirtual 9, 3) := by decide +kernel
theorem dL_halves_105 : decode cL_halves 105 = .ok (.dconst 1, 1) := by decide +kernel
theorem dL_halves_106 : decode cL_halves 106 = .ok (.dcmp .l, 1) := by decide +kernel
theorem dL_halves_107 : decode cL_halves 107 = .ok (.ifCond .ne 29, 3) := by decide +kernel
theorem dL_halves_110 : decode cL_halves 110 = .ok (.aload_n 0, 1) := by decide +kernel
theorem dL_halves_111 : decode cL_halves 111 = .ok (.iconst 0, 1) := by decide +kernel
theorem dL_halves_112 : decode cL_halves 112 = .ok (.iconst 1, 1) := by decide +kernel
theorem dL_halves_113 : decode cL_halves 113 = .ok (.invokevirtual 9, 3) := by decide +kernel
theorem dL_halves_116 : decode cL_halves 116 = .ok (.ldc2_w 183, 3) := by decide +kernel
theorem dL_halves_119 : decode cL_halves 119 = .ok (.dcmp .l, 1) := by decide +kernel
theorem dL_halves_120 : decode cL_halves 120 = .ok (.ifCond .ne 16, 3) := by decide +kernel
theorem dL_halves_123 : decode cL_halves 123 = .ok (.aload_n 0, 1) := by decide +kernel
theorem dL_halves_124 : decode cL_halves 124 = .ok (.iconst 0, 1) := by decide +kernel
theorem dL_halves_125 : decode cL_halves 125 = .ok (.iconst 2, 1) := by decide +kernel
theorem dL_halves_126 : decode cL_halves 126 = .ok (.invokevirtual 9, 3) := by decide +kernel
theorem dL_halves_129 : decode cL_halves 129 = .ok (.ldc2_w 185, 3) := by decide +kernel
theorem dL_halves_132 : decode cL_halves 132 = .ok (.dcmp .l, 1) := by decide +kernel
theorem dL_halves_133 : decode cL_halves 133 = .ok (.ifCond .eq 5, 3) := by decide +kernel
theorem dL_halves_136 : decode cL_halves 136 = .ok (.iconst 0, 1) := by decide +kernel
theorem dL_halves_137 : decode cL_halves 137 = .ok (.ireturn, 1) := by decide +kernel
theorem dL_halves_138 : decode cL_halves 138 = .ok (.aload_n 0, 1) := by decide +kernel
theorem dL_halves_139 : decode cL_halves 139 = .ok (.iconst 0, 1) := by decide +kernel
theorem dL_halves_140 : decode cL_halves 140 = .ok (.iconst 0, 1) := by decide +kernel
theorem dL_halves_141 : decode cL_halves 141 = .ok (.iconst 1, 1) := by decide +kernel
theorem dL_halves_142 : decode cL_halves 142 = .ok (.iconst 0, 1) := by decide +kernel
theorem dL_halves_143 : decode cL_halves 143 = .ok (.invokevirtual 76, 3) := by decide +kernel
theorem dL_halves_146 : decode cL_halves 146 = .ok (.ldc2_w 187, 3) := by decide +kernel
theorem dL_halves_149 : decode cL_halves 149 = .ok (.dcmp .l, 1) := by decide +kernel
theorem dL_halves_150 : decode cL_halves 150 = .ok (.ifCond .ne 123, 3) := by decide +kernel
theorem dL_halves_153 : decode cL_halves 153 = .ok (.aload_n 0, 1) := by decide +kernel
theorem dL_halves_154 : decode cL_halves 154 = .ok (.iconst 0, 1) := by decide +kernel
theorem dL_halves_155 : decode cL_halves 155 = .ok (.iconst 0, 1) := by decide +kernel
theorem dL_halves_156 : decode cL_halves 156 = .ok (.iconst 1, 1) := by decide +kernel
theorem dL_halves_157 : decode cL_halves 157 = .ok (.iconst 1, 1) := by decide +kernel
theorem dL_halves_158 : decode cL_halves 158 = .ok (.invokevirtual 76, 3) := by decide +kernel
theorem dL_halves_161 : decode cL_halves 161 = .ok (.ldc2_w 189, 3) := by decide +kernel
theorem dL_halves_164 : decode cL_halves 164 = .ok (.dcmp .l, 1) := by decide +kernel
theorem dL_halves_165 : decode cL_halves 165 = .ok (.ifCond .ne 108, 3) := by decide +kernel
theorem dL_halves_168 : decode cL_halves 168 = .ok (.aload_n 0, 1) := by decide +kernel
theorem dL_halves_169 : decode cL_halves 169 = .ok (.iconst 0, 1) := by decide +kernel
theorem dL_halves_170 : decode cL_halves 170 = .ok (.iconst 0, 1) := by decide +kernel
theorem dL_halves_171 : decode cL_halves 171 = .ok (.iconst 2, 1) := by decide +kernel
theorem dL_halves_172 : decode cL_halves 172 = .ok (.iconst 0, 1) := by decide +kernel
theorem dL_halves_173 : decode cL_halves 173 = .ok (.invokevirtual 76, 3) := by decide +kernel
theorem dL_halves_176 : decode cL_halves 176 = .ok (.ldc2_w 187, 3) := by decide +kernel
theorem dL_halves_179 : decode cL_halves 179 = .ok (.dcmp .l, 1) := by decide +kernel
theorem dL_halves_180 : decode cL_halves 180 = .ok (.ifCond .ne 93, 3) := by decide +kernel
theorem dL_halves_183 : decode cL_halves 183 = .ok (.aload_n 0, 1) := by decide +kernel
theorem dL_halves_184 : decode cL_halves 184 = .ok (.iconst 0, 1) := by decide +kernel
theorem dL_halves_185 : decode cL_halves 185 = .ok (.iconst 1, 1) := by decide +kernel
theorem dL_halves_186 : decode cL_halves 186 = .ok (.iconst 1, 1) := by decide +kernel
theorem dL_halves_187 : decode cL_halves 187 = .ok (.iconst 1, 1) := by decide +kernel
theorem dL_halves_188 : decode cL_halves 188 = .ok (.invokevirtual 76, 3) := by decide +kernel
theorem dL_halves_191 : decode cL_halves 191 = .ok (.ldc2_w 189, 3) := by decide +kernel
theorem dL_halves_194 : decode cL_halves 194 = .ok (.dcmp .l, 1) := by decide +kernel
theorem dL_halves_195 : decode cL_halves 195 = .ok (.ifCond .ne 78, 3) := by decide +kernel
theorem dL_halves_198 : decode cL_halves 198 = .ok (.aload_n 0, 1) := by decide +kernel
theorem dL_halves_199 : decode cL_halves 199 = .ok (.iconst 0, 1) := by decide +kernel
theorem dL_halves_200 : decode cL_halves 200 = .ok (.iconst 1, 1) := by decide +kernel
theorem dL_halves_201 : decode cL_halves 201 = .ok (.iconst 2, 1) := by decide +kernel
theorem dL_halves_202 : decode cL_halves 202 = .ok (.iconst 0, 1) := by decide +kernel
theorem dL_halves_203 : decode cL_halves 203 = .ok (.invokevirtual 76, 3) := by decide +kernel
theorem dL_halves_206 : decode cL_halves 206 = .ok (.ldc2_w 191, 3) := by decide +kernel
theorem dL_halves_209 : decode cL_halves 209 = .ok (.dcmp .l, 1) := by decide +kernel
theorem dL_halves_210 : decode cL_halves 210 = .ok (.ifCond .ne 63, 3) := by decide +kernel
theorem dL_halves_213 : decode cL_halves 213 = .ok (.aload_n 0, 1) := by decide +kernel
theorem dL_halves_214 : decode cL_halves 214 = .ok (.iconst 0, 1) := by decide +kernel
theorem dL_halves_215 : decode cL_halves 215 = .ok (.iconst 2, 1) := by decide +kernel
theorem dL_halves_216 : decode cL_halves 216 = .ok (.iconst 1, 1) := by decide +kernel
theorem dL_halves_217 : decode cL_halves 217 = .ok (.iconst 0, 1) := by decide +kernel
theorem dL_halves_218 : decode cL_halves 218 = .ok (.invokevirtual 76, 3) := by decide +kernel
theorem dL_halves_221 : decode cL_halves 221 = .ok (.ldc2_w 187, 3) := by decide +kernel
theorem dL_halves_224 : decode cL_halves 224 = .ok (.dcmp .l, 1) := by decide +kernel
theorem dL_halves_225 : decode cL_halves 225 = .ok (.ifCond .ne 48, 3) := by decide +kernel
theorem dL_halves_228 : decode cL_halves 228 = .ok (.aload_n 0, 1) := by decide +kernel
theorem dL_halves_229 : decode cL_halves 229 = .ok (.iconst 0, 1) := by decide +kernel
theorem dL_halves_230 : decode cL_halves 230 = .ok (.iconst 3, 1) := by decide +kernel
theorem dL_halves_231 : decode cL_halves 231 = .ok (.iconst 1, 1) := by decide +kernel
theorem dL_halves_232 : decode cL_halves 232 = .ok (.iconst 0, 1) := by decide +kernel
theorem dL_halves_233 : decode cL_halves 233 = .ok (.invokevirtual 76, 3) := by decide +kernel
theorem dL_halves_236 : decode cL_halves 236 = .ok (.ldc2_w 187, 3) := by decide +kernel
theorem dL_halves_239 : decode cL_halves 239 = .ok (.dcmp .l, 1) := by decide +kernel
theorem dL_halves_240 : decode cL_halves 240 = .ok (.ifCond .ne 33, 3) := by decide +kernel
theorem dL_halves_243 : decode cL_halves 243 = .ok (.aload_n 0, 1) := by decide +kernel
theorem dL_halves_244 : decode cL_halves 244 = .ok (.iconst 0, 1) := by decide +kernel
theorem dL_halves_245 : decode cL_halves 245 = .ok (.iconst 3, 1) := by decide +kernel
theorem dL_halves_246 : decode cL_halves 246 = .ok (.iconst 1, 1) := by decide +kernel
theorem dL_halves_247 : decode cL_halves 247 = .ok (.iconst 1, 1) := by decide +kernel
theorem dL_halves_248 : decode cL_halves 248 = .ok (.invokevirtual 76, 3) := by decide +kernel
theorem dL_halves_251 : decode cL_halves 251 = .ok (.ldc2_w 187, 3) := by decide +kernel
theorem dL_halves_254 : decode cL_halves 254 = .ok (.dcmp .l, 1) := by decide +kernel
theorem dL_halves_255 : decode cL_halves 255 = .ok (.ifCond .ne 18, 3) := by decide +kernel
theorem dL_halves_258 : decode cL_halves 258 = .ok (.aload_n 0, 1) := by decide +kernel
theorem dL_halves_259 : decode cL_halves 259 = .ok (.iconst 0, 1) := by decide +kernel
theorem dL_halves_260 : decode cL_halves 260 = .ok (.iconst 3, 1) := by decide +kernel
theorem dL_halves_261 : decode cL_halves 261 = .ok (.iconst 2, 1) := by decide +kernel
theorem dL_halves_262 : decode cL_halves 262 = .ok (.iconst 0, 1) := by decide +kernel
theorem dL_halves_263 : decode cL_halves 263 = .ok (.invokevirtual 76, 3) := by decide +kernel
theorem dL_halves_266 : decode cL_halves 266 = .ok (.ldc2_w 187, 3) := by decide +kernel
theorem dL_halves_269 : decode cL_halves 269 = .ok (.dcmp .l, 1) := by decide +kernel
theorem dL_halves_270 : decode cL_halves 270 = .ok (.ifCond .eq 5, 3) := by decide +kernel
theorem dL_halves_273 : decode cL_halves 273 = .ok (.iconst 0, 1) := by decide +kernel
theorem dL_halves_274 : decode cL_halves 274 = .ok (.ireturn, 1) := by decide +kernel
theorem dL_halves_275 : decode cL_halves 275 = .ok (.aload_n 0, 1) := by decide +kernel
theorem dL_halves_276 : decode cL_halves 276 = .ok (.iconst 0, 1) := by decide +kernel
theorem dL_halves_277 : decode cL_halves 277 = .ok (.iconst 0, 1) := by decide +kernel
theorem dL_halves_278 : decode cL_halves 278 = .ok (.iconst 0, 1) := by decide +kernel
theorem dL_halves_279 : decode cL_halves 279 = .ok (.invokevirtual 84, 3) := by decide +kernel
theorem dL_halves_282 : decode cL_halves 282 = .ok (.iconst 3, 1) := by decide +kernel
theorem dL_halves_283 : decode cL_halves 283 = .ok (.if_icmp .ne 62, 3) := by decide +kernel
theorem dL_halves_286 : decode cL_halves 286 = .ok (.aload_n 0, 1) := by decide +kernel
theorem dL_halves_287 : decode cL_halves 287 = .ok (.iconst 0, 1) := by decide +kernel
theorem dL_halves_288 : decode cL_halves 288 = .ok (.iconst 2, 1) := by decide +kernel
theorem dL_halves_289 : decode cL_halves 289 = .ok (.iconst 0, 1) := by decide +kernel
theorem dL_halves_290 : decode cL_halves 290 = .ok (.invokevirtual 84, 3) := by decide +kernel
theorem dL_halves_293 : decode cL_halves 293 = .ok (.iconst 2, 1) := by decide +kernel
theorem dL_halves_294 : decode cL_halves 294 = .ok (.if_icmp .ne 51, 3) := by decide +kernel
theorem dL_halves_297 : decode cL_halves 297 = .ok (.aload_n 0, 1) := by decide +kernel
theorem dL_halves_298 : decode cL_halves 298 = .ok (.iconst 0, 1) := by decide +kernel
theorem dL_halves_299 : decode cL_halves 299 = .ok (.iconst 3, 1) := by decide +kernel
theorem dL_halves_300 : decode cL_halves 300 = .ok (.iconst 0, 1) := by decide +kernel
theorem dL_halves_301 : decode cL_halves 301 = .ok (.invokevirtual 84, 3) := by decide +kernel
theorem dL_halves_304 : decode cL_halves 304 = .ok (.iconst 3, 1) := by decide +kernel
theorem dL_halves_305 : decode cL_halves 305 = .ok (.if_icmp .ne 40, 3) := by decide +kernel
theorem dL_halves_308 : decode cL_halves 308 = .ok (.aload_n 0, 1) := by decide +kernel
theorem dL_halves_309 : decode cL_halves 309 = .ok (.iconst 0, 1) := by decide +kernel
theorem dL_halves_310 : decode cL_halves 310 = .ok (.iconst 2, 1) := by decide +kernel
theorem dL_halves_311 : decode cL_halves 311 = .ok (.iconst 1, 1) := by decide +kernel
theorem dL_halves_312 : decode cL_halves 312 = .ok (.iconst 1, 1) := by decide +kernel
theorem dL_halves_313 : decode cL_halves 313 = .ok (.invokevirtual 80, 3) := by decide +kernel
theorem dL_halves_316 : decode cL_halves 316 = .ok (.bipush (-5), 2) := by decide +kernel
theorem dL_halves_318 : decode cL_halves 318 = .ok (.if_icmp .ne 27, 3) := by decide +kernel
theorem dL_halves_321 : decode cL_halves 321 = .ok (.aload_n 0, 1) := by decide +kernel
theorem dL_halves_322 : decode cL_halves 322 = .ok (.iconst 0, 1) := by decide +kernel
theorem dL_halves_323 : decode cL_halves 323 = .ok (.iconst 0, 1) := by decide +kernel
theorem dL_halves_324 : decode cL_halves 324 = .ok (.iconst 2, 1) := by decide +kernel
theorem dL_halves_325 : decode cL_halves 325 = .ok (.iconst 1, 1) := by decide +kernel
theorem dL_halves_326 : decode cL_halves 326 = .ok (.invokevirtual 80, 3) := by decide +kernel
theorem dL_halves_329 : decode cL_halves 329 = .ok (.bipush (-5), 2) := by decide +kernel
theorem dL_halves_331 : decode cL_halves 331 = .ok (.if_icmp .ne 14, 3) := by decide +kernel
theorem dL_halves_334 : decode cL_halves 334 = .ok (.aload_n 0, 1) := by decide +kernel
theorem dL_halves_335 : decode cL_halves 335 = .ok (.iconst 0, 1) := by decide +kernel
theorem dL_halves_336 : decode cL_halves 336 = .ok (.iconst 0, 1) := by decide +kernel
theorem dL_halves_337 : decode cL_halves 337 = .ok (.iconst 2, 1) := by decide +kernel
theorem dL_halves_338 : decode cL_halves 338 = .ok (.iconst 0, 1) := by decide +kernel
theorem dL_halves_339 : decode cL_halves 339 = .ok (.invokevirtual 80, 3) := by decide +kernel
theorem dL_halves_342 : decode cL_halves 342 = .ok (.ifCond .eq 5, 3) := by decide +kernel
theorem dL_halves_345 : decode cL_halves 345 = .ok (.iconst 0, 1) := by decide +kernel
theorem dL_halves_346 : decode cL_halves 346 = .ok (.ireturn, 1) := by decide +kernel
theorem dL_halves_347 : decode cL_halves 347 = .ok (.aload_n 0, 1) := by decide +kernel
theorem dL_halves_348 : decode cL_halves 348 = .ok (.iconst 0, 1) := by decide +kernel
theorem dL_halves_349 : decode cL_halves 349 = .ok (.iconst 0, 1) := by decide +kernel
theorem dL_halves_350 : decode cL_halves 350 = .ok (.invokevirtual 87, 3) := by decide +kernel
theorem dL_halves_353 : decode cL_halves 353 = .ok (.ldc2_w 187, 3) := by decide +kernel
theorem dL_halves_356 : decode cL_halves 356 = .ok (.dcmp .l, 1) := by decide +kernel
theorem dL_halves_357 : decode cL_halves 357 = .ok (.ifCond .ne 146, 3) := by decide +kernel
theorem dL_halves_360 : decode cL_halves 360 = .ok (.aload_n 0, 1) := by decide +kernel
theorem dL_halves_361 : decode cL_halves 361 = .ok (.iconst 0, 1) := by decide +kernel
theorem dL_halves_362 : decode cL_halves 362 = .ok (.iconst 0, 1) := by decide +kernel
theorem dL_halves_363 : decode cL_halves 363 = .ok (.invokevirtual 90, 3) := by decide +kernel
theorem dL_halves_366 : decode cL_halves 366 = .ok (.ldc2_w 193, 3) := by decide +kernel
theorem dL_halves_369 : decode cL_halves 369 = .ok (.dcmp .l, 1) := by decide +kernel
theorem dL_halves_370 : decode cL_halves 370 = .ok (.ifCond .ne 133, 3) := by decide +kernel
theorem dL_halves_373 : decode cL_halves 373 = .ok (.aload_n 0, 1) := by decide +kernel
theorem dL_halves_374 : decode cL_halves 374 = .ok (.iconst 0, 1) := by decide +kernel
theorem dL_halves_375 : decode cL_halves 375 = .ok (.iconst 0, 1) := by decide +kernel
theorem dL_halves_376 : decode cL_halves 376 = .ok (.iconst 4, 1) := by decide +kernel
theorem dL_halves_377 : decode cL_halves 377 = .ok (.invokevirtual 84, 3) := by decide +kernel
theorem dL_halves_380 : decode cL_halves 380 = .ok (.iconst 2, 1) := by decide +kernel
theorem dL_halves_381 : decode cL_halves 381 = .ok (.if_icmp .ne 122, 3) := by decide +kernel
theorem dL_halves_384 : decode cL_halves 384 = .ok (.aload_n 0, 1) := by decide +kernel
theorem dL_halves_385 : decode cL_halves 385 = .ok (.iconst 0, 1) := by decide +kernel
theorem dL_halves_386 : decode cL_halves 386 = .ok (.iconst 1, 1) := by decide +kernel
theorem dL_halves_387 : decode cL_halves 387 = .ok (.invokevirtual 87, 3) := by decide +kernel
theorem dL_halves_390 : decode cL_halves 390 = .ok (.ldc2_w 191, 3) := by decide +kernel
theorem dL_halves_393 : decode cL_halves 393 = .ok (.dcmp .l, 1) := by decide +kernel
theorem dL_halves_394 : decode cL_halves 394 = .ok (.ifCond .ne 109, 3) := by decide +kernel
theorem dL_halves_397 : decode cL_halves 397 = .ok (.aload_n 0, 1) := by decide +kernel
theorem dL_halves_398 : decode cL_halves 398 = .ok (.iconst 0, 1) := by decide +kernel
theorem dL_halves_399 : decode cL_halves 399 = .ok (.iconst 1, 1) := by decide +kernel
theorem dL_halves_400 : decode cL_halves 400 = .ok (.invokevirtual 90, 3) := by decide +kernel
theorem dL_halves_403 : decode cL_halves 403 = .ok (.ldc2_w 195, 3) := by decide +kernel
theorem dL_halves_406 : decode cL_halves 406 = .ok (.dcmp .l, 1) := by decide +kernel
theorem dL_halves_407 : decode cL_halves 407 = .ok (.ifCond .ne 96, 3) := by decide +kernel
theorem dL_halves_410 : decode cL_halves 410 = .ok (.aload_n 0, 1) := by decide +kernel
theorem dL_halves_411 : decode cL_halves 411 = .ok (.iconst 0, 1) := by decide +kernel
theorem dL_halves_412 : decode cL_halves 412 = .ok (.iconst 2, 1) := by decide +kernel
theorem dL_halves_413 : decode cL_halves 413 = .ok (.invokevirtual 87, 3) := by decide +kernel
theorem dL_halves_416 : decode cL_halves 416 = .ok (.ldc2_w 187, 3) := by decide +kernel
theorem dL_halves_419 : decode cL_halves 419 = .ok (.dcmp .l, 1) := by decide +kernel
theorem dL_halves_420 : decode cL_halves 420 = .ok (.ifCond .ne 83, 3) := by decide +kernel
theorem dL_halves_423 : decode cL_halves 423 = .ok (.aload_n 0, 1) := by decide +kernel
theorem dL_halves_424 : decode cL_halves 424 = .ok (.iconst 0, 1) := by decide +kernel
theorem dL_halves_425 : decode cL_halves 425 = .ok (.iconst 2, 1) := by decide +kernel
theorem dL_halves_426 : decode cL_halves 426 = .ok (.invokevirtual 90, 3) := by decide +kernel
theorem dL_halves_429 : decode cL_halves 429 = .ok (.ldc2_w 193, 3) := by decide +kernel
theorem dL_halves_432 : decode cL_halves 432 = .ok (.dcmp .l, 1) := by decide +kernel
theorem dL_halves_433 : decode cL_halves 433 = .ok (.ifCond .ne 70, 3) := by decide +kernel
theorem dL_halves_436 : decode cL_halves 436 = .ok (.aload_n 0, 1) := by decide +kernel
theorem dL_halves_437 : decode cL_halves 437 = .ok (.iconst 0, 1) := by decide +kernel
theorem dL_halves_438 : decode cL_halves 438 = .ok (.iconst 2, 1) := by decide +kernel
theorem dL_halves_439 : decode cL_halves 439 = .ok (.iconst 4, 1) := by decide +kernel
theorem dL_halves_440 : decode cL_halves 440 = .ok (.invokevirtual 84, 3) := by decide +kernel
theorem dL_halves_443 : decode cL_halves 443 = .ok (.iconst 1, 1) := by decide +kernel
theorem dL_halves_444 : decode cL_halves 444 = .ok (.if_icmp .ne 59, 3) := by decide +kernel
