theorem dX7_least_29 : decode cX7_least 29 = .ok (.iload_n 1, 1) := by decide +kernel
theorem dX7_least_30 : decode cX7_least 30 = .ok (.imul, 1) := by decide +kernel
theorem dX7_least_31 : decode cX7_least 31 = .ok (.iaload, 1) := by decide +kernel
theorem dX7_least_32 : decode cX7_least 32 = .ok (.goto 4, 3) := by decide +kernel
theorem dX7_least_35 : decode cX7_least 35 = .ok (.iconst 0, 1) := by decide +kernel
theorem dX7_least_36 : decode cX7_least 36 = .ok (.istore_n 2, 1) := by decide +kernel
theorem dX7_least_37 : decode cX7_least 37 = .ok (.iconst 0, 1) := by decide +kernel
theorem dX7_least_38 : decode cX7_least 38 = .ok (.istore_n 3, 1) := by decide +kernel
theorem dX7_least_39 : decode cX7_least 39 = .ok (.aload_n 0, 1) := by decide +kernel
theorem dX7_least_40 : decode cX7_least 40 = .ok (.getfield 60, 3) := by decide +kernel
theorem dX7_least_43 : decode cX7_least 43 = .ok (.ifCond .ne 58, 3) := by decide +kernel
theorem dX7_least_46 : decode cX7_least 46 = .ok (.iload_n 3, 1) := by decide +kernel
theorem dX7_least_47 : decode cX7_least 47 = .ok (.aload_n 0, 1) := by decide +kernel
theorem dX7_least_48 : decode cX7_least 48 = .ok (.getfield 13, 3) := by decide +kernel
theorem dX7_least_51 : decode cX7_least 51 = .ok (.iload_n 1, 1) := by decide +kernel
theorem dX7_least_52 : decode cX7_least 52 = .ok (.iaload, 1) := by decide +kernel
theorem dX7_least_53 : decode cX7_least 53 = .ok (.if_icmp .ge 48, 3) := by decide +kernel
theorem dX7_least_56 : decode cX7_least 56 = .ok (.bipush 64, 2) := by decide +kernel
theorem dX7_least_58 : decode cX7_least 58 = .ok (.iload_n 1, 1) := by decide +kernel
theorem dX7_least_59 : decode cX7_least 59 = .ok (.imul, 1) := by decide +kernel
theorem dX7_least_60 : decode cX7_least 60 = .ok (.iload_n 3, 1) := by decide +kernel
theorem dX7_least_61 : decode cX7_least 61 = .ok (.iadd, 1) := by decide +kernel
theorem dX7_least_62 : decode cX7_least 62 = .ok (.istore 4, 2) := by decide +kernel
theorem dX7_least_64 : decode cX7_least 64 = .ok (.aload_n 0, 1) := by decide +kernel
theorem dX7_least_65 : decode cX7_least 65 = .ok (.aload_n 0, 1) := by decide +kernel
theorem dX7_least_66 : decode cX7_least 66 = .ok (.getfield 17, 3) := by decide +kernel
theorem dX7_least_69 : decode cX7_least 69 = .ok (.iload 4, 2) := by decide +kernel
theorem dX7_least_71 : decode cX7_least 71 = .ok (.iaload, 1) := by decide +kernel
theorem dX7_least_72 : decode cX7_least 72 = .ok (.iconst 5, 1) := by decide +kernel
theorem dX7_least_73 : decode cX7_least 73 = .ok (.if_icmp .gt 14, 3) := by decide +kernel
theorem dX7_least_76 : decode cX7_least 76 = .ok (.aload_n 0, 1) := by decide +kernel
theorem dX7_least_77 : decode cX7_least 77 = .ok (.getfield 20, 3) := by decide +kernel
theorem dX7_least_80 : decode cX7_least 80 = .ok (.iload 4, 2) := by decide +kernel
theorem dX7_least_82 : decode cX7_least 82 = .ok (.iaload, 1) := by decide +kernel
theorem dX7_least_83 : decode cX7_least 83 = .ok (.iload_n 2, 1) := by decide +kernel
theorem dX7_least_84 : decode cX7_least 84 = .ok (.if_icmp .eq 7, 3) := by decide +kernel
theorem dX7_least_87 : decode cX7_least 87 = .ok (.iconst 1, 1) := by decide +kernel
theorem dX7_least_88 : decode cX7_least 88 = .ok (.goto 4, 3) := by decide +kernel
theorem dX7_least_91 : decode cX7_least 91 = .ok (.iconst 0, 1) := by decide +kernel
theorem dX7_least_92 : decode cX7_least 92 = .ok (.putfield 60, 3) := by decide +kernel
theorem dX7_least_95 : decode cX7_least 95 = .ok (.iinc 3 1, 3) := by decide +kernel
theorem dX7_least_98 : decode cX7_least 98 = .ok (.goto (-59), 3) := by decide +kernel
theorem dX7_least_101 : decode cX7_least 101 = .ok (.aload_n 0, 1) := by decide +kernel
theorem dX7_least_102 : decode cX7_least 102 = .ok (.getfield 60, 3) := by decide +kernel
theorem dX7_least_105 : decode cX7_least 105 = .ok (.ifCond .le 5, 3) := by decide +kernel
theorem dX7_least_108 : decode cX7_least 108 = .ok (.iconst 0, 1) := by decide +kernel
theorem dX7_least_109 : decode cX7_least 109 = .ok (.ireturn, 1) := by decide +kernel
theorem dX7_least_110 : decode cX7_least 110 = .ok (.aload_n 0, 1) := by decide +kernel
theorem dX7_least_111 : decode cX7_least 111 = .ok (.getfield 13, 3) := by decide +kernel
theorem dX7_least_114 : decode cX7_least 114 = .ok (.iload_n 1, 1) := by decide +kernel
theorem dX7_least_115 : decode cX7_least 115 = .ok (.iaload, 1) := by decide +kernel
theorem dX7_least_116 : decode cX7_least 116 = .ok (.ifCond .ne 10, 3) := by decide +kernel
theorem dX7_least_119 : decode cX7_least 119 = .ok (.aload_n 0, 1) := by decide +kernel
theorem dX7_least_120 : decode cX7_least 120 = .ok (.iconst 0, 1) := by decide +kernel
theorem dX7_least_121 : decode cX7_least 121 = .ok (.putfield 190, 3) := by decide +kernel
theorem dX7_least_124 : decode cX7_least 124 = .ok (.iconst 0, 1) := by decide +kernel
theorem dX7_least_125 : decode cX7_least 125 = .ok (.ireturn, 1) := by decide +kernel
theorem dX7_least_126 : decode cX7_least 126 = .ok (.aload_n 0, 1) := by decide +kernel
theorem dX7_least_127 : decode cX7_least 127 = .ok (.iconst 0, 1) := by decide +kernel
theorem dX7_least_128 : decode cX7_least 128 = .ok (.putfield 220, 3) := by decide +kernel
theorem dX7_least_131 : decode cX7_least 131 = .ok (.aload_n 0, 1) := by decide +kernel
theorem dX7_least_132 : decode cX7_least 132 = .ok (.iconst 1, 1) := by decide +kernel
theorem dX7_least_133 : decode cX7_least 133 = .ok (.putfield 229, 3) := by decide +kernel
theorem dX7_least_136 : decode cX7_least 136 = .ok (.aload_n 0, 1) := by decide +kernel
theorem dX7_least_137 : decode cX7_least 137 = .ok (.iconst 3, 1) := by decide +kernel
theorem dX7_least_138 : decode cX7_least 138 = .ok (.putfield 232, 3) := by decide +kernel
theorem dX7_least_141 : decode cX7_least 141 = .ok (.iconst 0, 1) := by decide +kernel
theorem dX7_least_142 : decode cX7_least 142 = .ok (.istore_n 3, 1) := by decide +kernel
theorem dX7_least_143 : decode cX7_least 143 = .ok (.iload_n 3, 1) := by decide +kernel
theorem dX7_least_144 : decode cX7_least 144 = .ok (.aload_n 0, 1) := by decide +kernel
theorem dX7_least_145 : decode cX7_least 145 = .ok (.getfield 13, 3) := by decide +kernel
theorem dX7_least_148 : decode cX7_least 148 = .ok (.iload_n 1, 1) := by decide +kernel
theorem dX7_least_149 : decode cX7_least 149 = .ok (.iaload, 1) := by decide +kernel
theorem dX7_least_150 : decode cX7_least 150 = .ok (.if_icmp .ge 24, 3) := by decide +kernel
theorem dX7_least_153 : decode cX7_least 153 = .ok (.aload_n 0, 1) := by decide +kernel
theorem dX7_least_154 : decode cX7_least 154 = .ok (.aload_n 0, 1) := by decide +kernel
theorem dX7_least_155 : decode cX7_least 155 = .ok (.getfield 17, 3) := by decide +kernel
theorem dX7_least_158 : decode cX7_least 158 = .ok (.bipush 64, 2) := by decide +kernel
theorem dX7_least_160 : decode cX7_least 160 = .ok (.iload_n 1, 1) := by decide +kernel
theorem dX7_least_161 : decode cX7_least 161 = .ok (.imul, 1) := by decide +kernel
theorem dX7_least_162 : decode cX7_least 162 = .ok (.iload_n 3, 1) := by decide +kernel
theorem dX7_least_163 : decode cX7_least 163 = .ok (.iadd, 1) := by decide +kernel
theorem dX7_least_164 : decode cX7_least 164 = .ok (.iaload, 1) := by decide +kernel
theorem dX7_least_165 : decode cX7_least 165 = .ok (.invokevirtual 250, 3) := by decide +kernel
theorem dX7_least_168 : decode cX7_least 168 = .ok (.iinc 3 1, 3) := by decide +kernel
theorem dX7_least_171 : decode cX7_least 171 = .ok (.goto (-28), 3) := by decide +kernel
theorem dX7_least_174 : decode cX7_least 174 = .ok (.aload_n 0, 1) := by decide +kernel
theorem dX7_least_175 : decode cX7_least 175 = .ok (.invokevirtual 253, 3) := by decide +kernel
theorem dX7_least_178 : decode cX7_least 178 = .ok (.aload_n 0, 1) := by decide +kernel
theorem dX7_least_179 : decode cX7_least 179 = .ok (.aload_n 0, 1) := by decide +kernel
theorem dX7_least_180 : decode cX7_least 180 = .ok (.getfield 229, 3) := by decide +kernel
theorem dX7_least_183 : decode cX7_least 183 = .ok (.aload_n 0, 1) := by decide +kernel
theorem dX7_least_184 : decode cX7_least 184 = .ok (.getfield 232, 3) := by decide +kernel
theorem dX7_least_187 : decode cX7_least 187 = .ok (.invokevirtual 247, 3) := by decide +kernel
theorem dX7_least_190 : decode cX7_least 190 = .ok (.istore_n 3, 1) := by decide +kernel
theorem dX7_least_191 : decode cX7_least 191 = .ok (.iconst 0, 1) := by decide +kernel
theorem dX7_least_192 : decode cX7_least 192 = .ok (.istore 4, 2) := by decide +kernel
theorem dX7_least_194 : decode cX7_least 194 = .ok (.iload_n 3, 1) := by decide +kernel
theorem dX7_least_195 : decode cX7_least 195 = .ok (.istore 5, 2) := by decide +kernel
theorem dX7_least_197 : decode cX7_least 197 = .ok (.aload_n 0, 1) := by decide +kernel
theorem dX7_least_198 : decode cX7_least 198 = .ok (.getfield 54, 3) := by decide +kernel
theorem dX7_least_201 : decode cX7_least 201 = .ok (.iload 5, 2) := by decide +kernel
theorem dX7_least_203 : decode cX7_least 203 = .ok (.iaload, 1) := by decide +kernel
theorem dX7_least_204 : decode cX7_least 204 = .ok (.ifCond .lt 18, 3) := by decide +kernel
theorem dX7_least_207 : decode cX7_least 207 = .ok (.iinc 4 1, 3) := by decide +kernel
theorem dX7_least_210 : decode cX7_least 210 = .ok (.aload_n 0, 1) := by decide +kernel
theorem dX7_least_211 : decode cX7_least 211 = .ok (.getfield 54, 3) := by decide +kernel
theorem dX7_least_214 : decode cX7_least 214 = .ok (.iload 5, 2) := by decide +kernel
theorem dX7_least_216 : decode cX7_least 216 = .ok (.iaload, 1) := by decide +kernel
theorem dX7_least_217 : decode cX7_least 217 = .ok (.istore 5, 2) := by decide +kernel
theorem dX7_least_219 : decode cX7_least 219 = .ok (.goto (-22), 3) := by decide +kernel
theorem dX7_least_222 : decode cX7_least 222 = .ok (.iconst 0, 1) := by decide +kernel
theorem dX7_least_223 : decode cX7_least 223 = .ok (.istore 5, 2) := by decide +kernel
theorem dX7_least_225 : decode cX7_least 225 = .ok (.iload 5, 2) := by decide +kernel
theorem dX7_least_227 : decode cX7_least 227 = .ok (.aload_n 0, 1) := by decide +kernel
theorem dX7_least_228 : decode cX7_least 228 = .ok (.getfield 220, 3) := by decide +kernel
theorem dX7_least_231 : decode cX7_least 231 = .ok (.if_icmp .ge 23, 3) := by decide +kernel
theorem dX7_least_234 : decode cX7_least 234 = .ok (.iload 4, 2) := by decide +kernel
theorem dX7_least_236 : decode cX7_least 236 = .ok (.iconst 1, 1) := by decide +kernel
theorem dX7_least_237 : decode cX7_least 237 = .ok (.aload_n 0, 1) := by decide +kernel
theorem dX7_least_238 : decode cX7_least 238 = .ok (.getfield 45, 3) := by decide +kernel
theorem dX7_least_241 : decode cX7_least 241 = .ok (.iload 5, 2) := by decide +kernel
theorem dX7_least_243 : decode cX7_least 243 = .ok (.iaload, 1) := by decide +kernel
theorem dX7_least_244 : decode cX7_least 244 = .ok (.iadd, 1) := by decide +kernel
theorem dX7_least_245 : decode cX7_least 245 = .ok (.iadd, 1) := by decide +kernel
theorem dX7_least_246 : decode cX7_least 246 = .ok (.istore 4, 2) := by decide +kernel
theorem dX7_least_248 : decode cX7_least 248 = .ok (.iinc 5 1, 3) := by decide +kernel
theorem dX7_least_251 : decode cX7_least 251 = .ok (.goto (-26), 3) := by decide +kernel
theorem dX7_least_254 : decode cX7_least 254 = .ok (.iload 4, 2) := by decide +kernel
theorem dX7_least_256 : decode cX7_least 256 = .ok (.bipush 64, 2) := by decide +kernel
theorem dX7_least_258 : decode cX7_least 258 = .ok (.if_icmp .le 10, 3) := by decide +kernel
theorem dX7_least_261 : decode cX7_least 261 = .ok (.aload_n 0, 1) := by decide +kernel
theorem dX7_least_262 : decode cX7_least 262 = .ok (.iconst 2, 1) := by decide +kernel
theorem dX7_least_263 : decode cX7_least 263 = .ok (.putfield 60, 3) := by decide +kernel
theorem dX7_least_266 : decode cX7_least 266 = .ok (.iconst 0, 1) := by decide +kernel
theorem dX7_least_267 : decode cX7_least 267 = .ok (.ireturn, 1) := by decide +kernel
theorem dX7_least_268 : decode cX7_least 268 = .ok (.aload_n 0, 1) := by decide +kernel
theorem dX7_least_269 : decode cX7_least 269 = .ok (.getfield 13, 3) := by decide +kernel
theorem dX7_least_272 : decode cX7_least 272 = .ok (.iconst 3, 1) := by decide +kernel
theorem dX7_least_273 : decode cX7_least 273 = .ok (.iconst 0, 1) := by decide +kernel
theorem dX7_least_274 : decode cX7_least 274 = .ok (.iastore, 1) := by decide +kernel
theorem dX7_least_275 : decode cX7_least 275 = .ok (.aload_n 0, 1) := by decide +kernel
theorem dX7_least_276 : decode cX7_least 276 = .ok (.iload_n 3, 1) := by decide +kernel
theorem dX7_least_277 : decode cX7_least 277 = .ok (.iload_n 2, 1) := by decide +kernel
theorem dX7_least_278 : decode cX7_least 278 = .ok (.invokevirtual 256, 3) := by decide +kernel
theorem dX7_least_281 : decode cX7_least 281 = .ok (.aload_n 0, 1) := by decide +kernel
theorem dX7_least_282 : decode cX7_least 282 = .ok (.getfield 220, 3) := by decide +kernel
theorem dX7_least_285 : decode cX7_least 285 = .ok (.iconst 1, 1) := by decide +kernel
theorem dX7_least_286 : decode cX7_least 286 = .ok (.isub, 1) := by decide +kernel
theorem dX7_least_287 : decode cX7_least 287 = .ok (.istore 5, 2) := by decide +kernel
theorem dX7_least_289 : decode cX7_least 289 = .ok (.iload 5, 2) := by decide +kernel
theorem dX7_least_291 : decode cX7_least 291 = .ok (.ifCond .lt 57, 3) := by decide +kernel
theorem dX7_least_294 : decode cX7_least 294 = .ok (.aload_n 0, 1) := by decide +kernel
theorem dX7_least_295 : decode cX7_least 295 = .ok (.iconst 3, 1) := by decide +kernel
theorem dX7_least_296 : decode cX7_least 296 = .ok (.iconst 3, 1) := by decide +kernel
theorem dX7_least_297 : decode cX7_least 297 = .ok (.iload_n 2, 1) := by decide +kernel
theorem dX7_least_298 : decode cX7_least 298 = .ok (.iconst (-1), 1) := by decide +kernel
theorem dX7_least_299 : decode cX7_least 299 = .ok (.iconst (-1), 1) := by decide +kernel
theorem dX7_least_300 : decode cX7_least 300 = .ok (.invokevirtual 95, 3) := by decide +kernel
theorem dX7_least_303 : decode cX7_least 303 = .ok (.aload_n 0, 1) := by decide +kernel
theorem dX7_least_304 : decode cX7_least 304 = .ok (.getfield 45, 3) := by decide +kernel
theorem dX7_least_307 : decode cX7_least 307 = .ok (.iload 5, 2) := by decide +kernel
theorem dX7_least_309 : decode cX7_least 309 = .ok (.iaload, 1) := by decide +kernel
theorem dX7_least_310 : decode cX7_least 310 = .ok (.ifCond .le 12, 3) := by decide +kernel
theorem dX7_least_313 : decode cX7_least 313 = .ok (.aload_n 0, 1) := by decide +kernel
theorem dX7_least_314 : decode cX7_least 314 = .ok (.iconst 3, 1) := by decide +kernel
theorem dX7_least_315 : decode cX7_least 315 = .ok (.iconst 1, 1) := by decide +kernel
theorem dX7_least_316 : decode cX7_least 316 = .ok (.iload_n 2, 1) := by decide +kernel
theorem dX7_least_317 : decode cX7_least 317 = .ok (.iconst (-1), 1) := by decide +kernel
theorem dX7_least_318 : decode cX7_least 318 = .ok (.iconst (-1), 1) := by decide +kernel
theorem dX7_least_319 : decode cX7_least 319 = .ok (.invokevirtual 95, 3) := by decide +kernel
theorem dX7_least_322 : decode cX7_least 322 = .ok (.aload_n 0, 1) := by decide +kernel
theorem dX7_least_323 : decode cX7_least 323 = .ok (.getfield 45, 3) := by decide +kernel
theorem dX7_least_326 : decode cX7_least 326 = .ok (.iload 5, 2) := by decide +kernel
theorem dX7_least_328 : decode cX7_least 328 = .ok (.iaload, 1) := by decide +kernel
theorem dX7_least_329 : decode cX7_least 329 = .ok (.iconst 2, 1) := by decide +kernel
theorem dX7_least_330 : decode cX7_least 330 = .ok (.if_icmp .ne 12, 3) := by decide +kernel
theorem dX7_least_333 : decode cX7_least 333 = .ok (.aload_n 0, 1) := by decide +kernel
theorem dX7_least_334 : decode cX7_least 334 = .ok (.iconst 3, 1) := by decide +kernel
theorem dX7_least_335 : decode cX7_least 335 = .ok (.iconst 2, 1) := by decide +kernel
theorem dX7_least_336 : decode cX7_least 336 = .ok (.iload_n 2, 1) := by decide +kernel
theorem dX7_least_337 : decode cX7_least 337 = .ok (.iconst (-1), 1) := by decide +kernel
theorem dX7_least_338 : decode cX7_least 338 = .ok (.iconst (-1), 1) := by decide +kernel
theorem dX7_least_339 : decode cX7_least 339 = .ok (.invokevirtual 95, 3) := by decide +kernel
theorem dX7_least_342 : decode cX7_least 342 = .ok (.iinc 5 (-1), 3) := by decide +kernel
theorem dX7_least_345 : decode cX7_least 345 = .ok (.goto (-56), 3) := by decide +kernel
theorem dX7_least_348 : decode cX7_least 348 = .ok (.aload_n 0, 1) := by decide +kernel
theorem dX7_least_349 : decode cX7_least 349 = .ok (.iconst 0, 1) := by decide +kernel
theorem dX7_least_350 : decode cX7_least 350 = .ok (.putfield 190, 3) := by decide +kernel
theorem dX7_least_353 : decode cX7_least 353 = .ok (.aload_n 0, 1) := by decide +kernel
theorem dX7_least_354 : decode cX7_least 354 = .ok (.getfield 190, 3) := by decide +kernel
theorem dX7_least_357 : decode cX7_least 357 = .ok (.bipush 7, 2) := by decide +kernel
theorem dX7_least_359 : decode cX7_least 359 = .ok (.if_icmp .ge 29, 3) := by decide +kernel
theorem dX7_least_362 : decode cX7_least 362 = .ok (.aload_n 0, 1) := by decide +kernel
theorem dX7_least_363 : decode cX7_least 363 = .ok (.iload_n 1, 1) := by decide +kernel
theorem dX7_least_364 : decode cX7_least 364 = .ok (.iconst 3, 1) := by decide +kernel
theorem dX7_least_365 : decode cX7_least 365 = .ok (.aload_n 0, 1) := by decide +kernel
theorem dX7_least_366 : decode cX7_least 366 = .ok (.getfield 190, 3) := by decide +kernel
theorem dX7_least_369 : decode cX7_least 369 = .ok (.invokevirtual 186, 3) := by decide +kernel
theorem dX7_least_372 : decode cX7_least 372 = .ok (.ifCond .ne 16, 3) := by decide +kernel
theorem dX7_least_375 : decode cX7_least 375 = .ok (.aload_n 0, 1) := by decide +kernel
theorem dX7_least_376 : decode cX7_least 376 = .ok (.dup, 1) := by decide +kernel
theorem dX7_least_377 : decode cX7_least 377 = .ok (.getfield 190, 3) := by decide +kernel
theorem dX7_least_380 : decode cX7_least 380 = .ok (.iconst 1, 1) := by decide +kernel
theorem dX7_least_381 : decode cX7_least 381 = .ok (.iadd, 1) := by decide +kernel
theorem dX7_least_382 : decode cX7_least 382 = .ok (.putfield 190, 3) := by decide +kernel
theorem dX7_least_385 : decode cX7_least 385 = .ok (.goto (-32), 3) := by decide +kernel
theorem dX7_least_388 : decode cX7_least 388 = .ok (.aload_n 0, 1) := by decide +kernel
theorem dX7_least_389 : decode cX7_least 389 = .ok (.iconst 3, 1) := by decide +kernel
theorem dX7_least_390 : decode cX7_least 390 = .ok (.iload_n 1, 1) := by decide +kernel
theorem dX7_least_391 : decode cX7_least 391 = .ok (.invokevirtual 103, 3) := by decide +kernel
theorem dX7_least_394 : decode cX7_least 394 = .ok (.aload_n 0, 1) := by decide +kernel
theorem dX7_least_395 : decode cX7_least 395 = .ok (.getfield 220, 3) := by decide +kernel
theorem dX7_least_398 : decode cX7_least 398 = .ok (.ireturn, 1) := by decide +kernel
theorem dX7_lower_0 : decode cX7_lower 0 = .ok (.aload_n 0, 1) := by decide +kernel
theorem dX7_lower_1 : decode cX7_lower 1 = .ok (.getfield 259, 3) := by decide +kernel
theorem dX7_lower_4 : decode cX7_lower 4 = .ok (.ifCond .le 7, 3) := by decide +kernel
theorem dX7_lower_7 : decode cX7_lower 7 = .ok (.iconst 1, 1) := by decide +kernel
theorem dX7_lower_8 : decode cX7_lower 8 = .ok (.goto 4, 3) := by decide +kernel
theorem dX7_lower_11 : decode cX7_lower 11 = .ok (.iconst 0, 1) := by decide +kernel
theorem dX7_lower_12 : decode cX7_lower 12 = .ok (.istore_n 1, 1) := by decide +kernel
theorem dX7_lower_13 : decode cX7_lower 13 = .ok (.iload_n 1, 1) := by decide +kernel
theorem dX7_lower_14 : decode cX7_lower 14 = .ok (.ifCond .eq 183, 3) := by decide +kernel
theorem dX7_lower_17 : decode cX7_lower 17 = .ok (.iconst 0, 1) := by decide +kernel
theorem dX7_lower_18 : decode cX7_lower 18 = .ok (.istore_n 2, 1) := by decide +kernel
theorem dX7_lower_19 : decode cX7_lower 19 = .ok (.iload_n 2, 1) := by decide +kernel
theorem dX7_lower_20 : decode cX7_lower 20 = .ok (.aload_n 0, 1) := by decide +kernel
theorem dX7_lower_21 : decode cX7_lower 21 = .ok (.invokevirtual 149, 3) := by decide +kernel
theorem dX7_lower_24 : decode cX7_lower 24 = .ok (.if_icmp .ge 73, 3) := by decide +kernel
theorem dX7_lower_27 : decode cX7_lower 27 = .ok (.iload_n 1, 1) := by decide +kernel
theorem dX7_lower_28 : decode cX7_lower 28 = .ok (.ifCond .eq 69, 3) := by decide +kernel
theorem dX7_lower_31 : decode cX7_lower 31 = .ok (.aload_n 0, 1) := by decide +kernel
theorem dX7_lower_32 : decode cX7_lower 32 = .ok (.getfield 29, 3) := by decide +kernel
theorem dX7_lower_35 : decode cX7_lower 35 = .ok (.iconst 4, 1) := by decide +kernel
theorem dX7_lower_36 : decode cX7_lower 36 = .ok (.iload_n 2, 1) := by decide +kernel
theorem dX7_lower_37 : decode cX7_lower 37 = .ok (.imul, 1) := by decide +kernel
theorem dX7_lower_38 : decode cX7_lower 38 = .ok (.laload, 1) := by decide +kernel
theorem dX7_lower_39 : decode cX7_lower 39 = .ok (.aload_n 0, 1) := by decide +kernel
theorem dX7_lower_40 : decode cX7_lower 40 = .ok (.getfield 29, 3) := by decide +kernel
theorem dX7_lower_43 : decode cX7_lower 43 = .ok (.iconst 4, 1) := by decide +kernel
theorem dX7_lower_44 : decode cX7_lower 44 = .ok (.iload_n 2, 1) := by decide +kernel
theorem dX7_lower_45 : decode cX7_lower 45 = .ok (.imul, 1) := by decide +kernel
theorem dX7_lower_46 : decode cX7_lower 46 = .ok (.iconst 2, 1) := by decide +kernel
theorem dX7_lower_47 : decode cX7_lower 47 = .ok (.iadd, 1) := by decide +kernel
theorem dX7_lower_48 : decode cX7_lower 48 = .ok (.laload, 1) := by decide +kernel
theorem dX7_lower_49 : decode cX7_lower 49 = .ok (.ladd, 1) := by decide +kernel
theorem dX7_lower_50 : decode cX7_lower 50 = .ok (.lconst 1, 1) := by decide +kernel
theorem dX7_lower_51 : decode cX7_lower 51 = .ok (.land, 1) := by decide +kernel
theorem dX7_lower_52 : decode cX7_lower 52 = .ok (.lconst 0, 1) := by decide +kernel
theorem dX7_lower_53 : decode cX7_lower 53 = .ok (.lcmp, 1) := by decide +kernel
theorem dX7_lower_54 : decode cX7_lower 54 = .ok (.ifCond .ne 35, 3) := by decide +kernel
theorem dX7_lower_57 : decode cX7_lower 57 = .ok (.aload_n 0, 1) := by decide +kernel
theorem dX7_lower_58 : decode cX7_lower 58 = .ok (.getfield 29, 3) := by decide +kernel
theorem dX7_lower_61 : decode cX7_lower 61 = .ok (.iconst 4, 1) := by decide +kernel
theorem dX7_lower_62 : decode cX7_lower 62 = .ok (.iload_n 2, 1) := by decide +kernel
theorem dX7_lower_63 : decode cX7_lower 63 = .ok (.imul, 1) := by decide +kernel
theorem dX7_lower_64 : decode cX7_lower 64 = .ok (.iconst 1, 1) := by decide +kernel
theorem dX7_lower_65 : decode cX7_lower 65 = .ok (.iadd, 1) := by decide +kernel
theorem dX7_lower_66 : decode cX7_lower 66 = .ok (.laload, 1) := by decide +kernel
theorem dX7_lower_67 : decode cX7_lower 67 = .ok (.aload_n 0, 1) := by decide +kernel
theorem dX7_lower_68 : decode cX7_lower 68 = .ok (.getfield 29, 3) := by decide +kernel
theorem dX7_lower_71 : decode cX7_lower 71 = .ok (.iconst 4, 1) := by decide +kernel
theorem dX7_lower_72 : decode cX7_lower 72 = .ok (.iload_n 2, 1) := by decide +kernel
theorem dX7_lower_73 : decode cX7_lower 73 = .ok (.imul, 1) := by decide +kernel
theorem dX7_lower_74 : decode cX7_lower 74 = .ok (.iconst 3, 1) := by decide +kernel
theorem dX7_lower_75 : decode cX7_lower 75 = .ok (.iadd, 1) := by decide +kernel
theorem dX7_lower_76 : decode cX7_lower 76 = .ok (.laload, 1) := by decide +kernel
theorem dX7_lower_77 : decode cX7_lower 77 = .ok (.ladd, 1) := by decide +kernel
theorem dX7_lower_78 : decode cX7_lower 78 = .ok (.lconst 1, 1) := by decide +kernel
theorem dX7_lower_79 : decode cX7_lower 79 = .ok (.land, 1) := by decide +kernel
theorem dX7_lower_80 : decode cX7_lower 80 = .ok (.lconst 0, 1) := by decide +kernel
theorem dX7_lower_81 : decode cX7_lower 81 = .ok (.lcmp, 1) := by decide +kernel
theorem dX7_lower_82 : decode cX7_lower 82 = .ok (.ifCond .ne 7, 3) := by decide +kernel
theorem dX7_lower_85 : decode cX7_lower 85 = .ok (.iconst 1, 1) := by decide +kernel
theorem dX7_lower_86 : decode cX7_lower 86 = .ok (.goto 4, 3) := by decide +kernel
theorem dX7_lower_89 : decode cX7_lower 89 = .ok (.iconst 0, 1) := by decide +kernel
theorem dX7_lower_90 : decode cX7_lower 90 = .ok (.istore_n 1, 1) := by decide +kernel
theorem dX7_lower_91 : decode cX7_lower 91 = .ok (.iinc 2 1, 3) := by decide +kernel
theorem dX7_lower_94 : decode cX7_lower 94 = .ok (.goto (-75), 3) := by decide +kernel
theorem dX7_lower_97 : decode cX7_lower 97 = .ok (.iconst 0, 1) := by decide +kernel
theorem dX7_lower_98 : decode cX7_lower 98 = .ok (.istore_n 2, 1) := by decide +kernel
theorem dX7_lower_99 : decode cX7_lower 99 = .ok (.iload_n 2, 1) := by decide +kernel
theorem dX7_lower_100 : decode cX7_lower 100 = .ok (.aload_n 0, 1) := by decide +kernel
theorem dX7_lower_101 : decode cX7_lower 101 = .ok (.invokevirtual 149, 3) := by decide +kernel
theorem dX7_lower_104 : decode cX7_lower 104 = .ok (.if_icmp .ge 52, 3) := by decide +kernel
theorem dX7_lower_107 : decode cX7_lower 107 = .ok (.iload_n 1, 1) := by decide +kernel
theorem dX7_lower_108 : decode cX7_lower 108 = .ok (.ifCond .eq 48, 3) := by decide +kernel
theorem dX7_lower_111 : decode cX7_lower 111 = .ok (.aload_n 0, 1) := by decide +kernel
theorem dX7_lower_112 : decode cX7_lower 112 = .ok (.getfield 29, 3) := by decide +kernel
theorem dX7_lower_115 : decode cX7_lower 115 = .ok (.iconst 4, 1) := by decide +kernel
theorem dX7_lower_116 : decode cX7_lower 116 = .ok (.iload_n 2, 1) := by decide +kernel
theorem dX7_lower_117 : decode cX7_lower 117 = .ok (.imul, 1) := by decide +kernel
theorem dX7_lower_118 : decode cX7_lower 118 = .ok (.invokestatic 180, 3) := by decide +kernel
theorem dX7_lower_121 : decode cX7_lower 121 = .ok (.iconst 0, 1) := by decide +kernel
theorem dX7_lower_122 : decode cX7_lower 122 = .ok (.istore_n 3, 1) := by decide +kernel
theorem dX7_lower_123 : decode cX7_lower 123 = .ok (.iload_n 3, 1) := by decide +kernel
theorem dX7_lower_124 : decode cX7_lower 124 = .ok (.iconst 4, 1) := by decide +kernel
theorem dX7_lower_125 : decode cX7_lower 125 = .ok (.if_icmp .ge 25, 3) := by decide +kernel
theorem dX7_lower_128 : decode cX7_lower 128 = .ok (.aload_n 0, 1) := by decide +kernel
theorem dX7_lower_129 : decode cX7_lower 129 = .ok (.getfield 29, 3) := by decide +kernel
theorem dX7_lower_132 : decode cX7_lower 132 = .ok (.iconst 4, 1) := by decide +kernel
theorem dX7_lower_133 : decode cX7_lower 133 = .ok (.iload_n 2, 1) := by decide +kernel
theorem dX7_lower_134 : decode cX7_lower 134 = .ok (.imul, 1) := by decide +kernel
theorem dX7_lower_135 : decode cX7_lower 135 = .ok (.iload_n 3, 1) := by decide +kernel
theorem dX7_lower_136 : decode cX7_lower 136 = .ok (.iadd, 1) := by decide +kernel
theorem dX7_lower_137 : decode cX7_lower 137 = .ok (.dup2, 1) := by decide +kernel
theorem dX7_lower_138 : decode cX7_lower 138 = .ok (.laload, 1) := by decide +kernel
theorem dX7_lower_139 : decode cX7_lower 139 = .ok (.ldc2_w 63, 3) := by decide +kernel
theorem dX7_lower_142 : decode cX7_lower 142 = .ok (.ldiv, 1) := by decide +kernel
theorem dX7_lower_143 : decode cX7_lower 143 = .ok (.lastore, 1) := by decide +kernel
theorem dX7_lower_144 : decode cX7_lower 144 = .ok (.iinc 3 1, 3) := by decide +kernel
theorem dX7_lower_147 : decode cX7_lower 147 = .ok (.goto (-24), 3) := by decide +kernel
theorem dX7_lower_150 : decode cX7_lower 150 = .ok (.iinc 2 1, 3) := by decide +kernel
theorem dX7_lower_153 : decode cX7_lower 153 = .ok (.goto (-54), 3) := by decide +kernel
theorem dX7_lower_156 : decode cX7_lower 156 = .ok (.aload_n 0, 1) := by decide +kernel
theorem dX7_lower_157 : decode cX7_lower 157 = .ok (.iload_n 1, 1) := by decide +kernel
theorem dX7_lower_158 : decode cX7_lower 158 = .ok (.ifCond .eq 12, 3) := by decide +kernel
theorem dX7_lower_161 : decode cX7_lower 161 = .ok (.aload_n 0, 1) := by decide +kernel
theorem dX7_lower_162 : decode cX7_lower 162 = .ok (.getfield 259, 3) := by decide +kernel
theorem dX7_lower_165 : decode cX7_lower 165 = .ok (.iconst 1, 1) := by decide +kernel
theorem dX7_lower_166 : decode cX7_lower 166 = .ok (.isub, 1) := by decide +kernel
theorem dX7_lower_167 : decode cX7_lower 167 = .ok (.goto 7, 3) := by decide +kernel
theorem dX7_lower_170 : decode cX7_lower 170 = .ok (.aload_n 0, 1) := by decide +kernel
theorem dX7_lower_171 : decode cX7_lower 171 = .ok (.getfield 259, 3) := by decide +kernel
theorem dX7_lower_174 : decode cX7_lower 174 = .ok (.putfield 259, 3) := by decide +kernel
theorem dX7_lower_177 : decode cX7_lower 177 = .ok (.iload_n 1, 1) := by decide +kernel
theorem dX7_lower_178 : decode cX7_lower 178 = .ok (.ifCond .eq 14, 3) := by decide +kernel
theorem dX7_lower_181 : decode cX7_lower 181 = .ok (.aload_n 0, 1) := by decide +kernel
theorem dX7_lower_182 : decode cX7_lower 182 = .ok (.getfield 259, 3) := by decide +kernel
theorem dX7_lower_185 : decode cX7_lower 185 = .ok (.ifCond .le 7, 3) := by decide +kernel
theorem dX7_lower_188 : decode cX7_lower 188 = .ok (.iconst 1, 1) := by decide +kernel
theorem dX7_lower_189 : decode cX7_lower 189 = .ok (.goto 4, 3) := by decide +kernel
theorem dX7_lower_192 : decode cX7_lower 192 = .ok (.iconst 0, 1) := by decide +kernel
theorem dX7_lower_193 : decode cX7_lower 193 = .ok (.istore_n 1, 1) := by decide +kernel
theorem dX7_lower_194 : decode cX7_lower 194 = .ok (.goto (-181), 3) := by decide +kernel
theorem dX7_lower_197 : decode cX7_lower 197 = .ok (.return_, 1) := by decide +kernel
theorem dX7_state_0 : decode cX7_state 0 = .ok (.aload_n 0, 1) := by decide +kernel
theorem dX7_state_1 : decode cX7_state 1 = .ok (.iload_n 1, 1) := by decide +kernel
theorem dX7_state_2 : decode cX7_state 2 = .ok (.invokestatic 88, 3) := by decide +kernel
theorem dX7_state_5 : decode cX7_state 5 = .ok (.ifCond .eq 7, 3) := by decide +kernel
theorem dX7_state_8 : decode cX7_state 8 = .ok (.iconst 0, 1) := by decide +kernel
theorem dX7_state_9 : decode cX7_state 9 = .ok (.goto 4, 3) := by decide +kernel
theorem dX7_state_12 : decode cX7_state 12 = .ok (.iconst 1, 1) := by decide +kernel
theorem dX7_state_13 : decode cX7_state 13 = .ok (.putfield 60, 3) := by decide +kernel
theorem dX7_state_16 : decode cX7_state 16 = .ok (.aload_n 0, 1) := by decide +kernel
theorem dX7_state_17 : decode cX7_state 17 = .ok (.getfield 60, 3) := by decide +kernel
theorem dX7_state_20 : decode cX7_state 20 = .ok (.ifCond .le 5, 3) := by decide +kernel
theorem dX7_state_23 : decode cX7_state 23 = .ok (.iconst 0, 1) := by decide +kernel
theorem dX7_state_24 : decode cX7_state 24 = .ok (.ireturn, 1) := by decide +kernel
theorem dX7_state_25 : decode cX7_state 25 = .ok (.aload_n 0, 1) := by decide +kernel
theorem dX7_state_26 : decode cX7_state 26 = .ok (.aload_n 0, 1) := by decide +kernel
theorem dX7_state_27 : decode cX7_state 27 = .ok (.iload_n 1, 1) := by decide +kernel
theorem dX7_state_28 : decode cX7_state 28 = .ok (.iconst 0, 1) := by decide +kernel
theorem dX7_state_29 : decode cX7_state 29 = .ok (.aload_n 0, 1) := by decide +kernel
theorem dX7_state_30 : decode cX7_state 30 = .ok (.getfield 29, 3) := by decide +kernel
theorem dX7_state_33 : decode cX7_state 33 = .ok (.invokevirtual 170, 3) := by decide +kernel
theorem dX7_state_36 : decode cX7_state 36 = .ok (.putfield 259, 3) := by decide +kernel
theorem dX7_state_39 : decode cX7_state 39 = .ok (.aload_n 0, 1) := by decide +kernel
theorem dX7_state_40 : decode cX7_state 40 = .ok (.iconst 1, 1) := by decide +kernel
theorem dX7_state_41 : decode cX7_state 41 = .ok (.putfield 71, 3) := by decide +kernel
theorem dX7_state_44 : decode cX7_state 44 = .ok (.aload_n 0, 1) := by decide +kernel
theorem dX7_state_45 : decode cX7_state 45 = .ok (.invokevirtual 262, 3) := by decide +kernel
theorem dX7_state_48 : decode cX7_state 48 = .ok (.aload_n 0, 1) := by decide +kernel
theorem dX7_state_49 : decode cX7_state 49 = .ok (.getfield 259, 3) := by decide +kernel
theorem dX7_state_52 : decode cX7_state 52 = .ok (.ireturn, 1) := by decide +kernel
theorem dX7_amplitude_0 : decode cX7_amplitude 0 = .ok (.aload_n 0, 1) := by decide +kernel
theorem dX7_amplitude_1 : decode cX7_amplitude 1 = .ok (.aload_n 0, 1) := by decide +kernel
theorem dX7_amplitude_2 : decode cX7_amplitude 2 = .ok (.getfield 71, 3) := by decide +kernel
theorem dX7_amplitude_5 : decode cX7_amplitude 5 = .ok (.ifCond .ne 7, 3) := by decide +kernel
theorem dX7_amplitude_8 : decode cX7_amplitude 8 = .ok (.iconst 1, 1) := by decide +kernel
theorem dX7_amplitude_9 : decode cX7_amplitude 9 = .ok (.goto 36, 3) := by decide +kernel
theorem dX7_amplitude_12 : decode cX7_amplitude 12 = .ok (.iload_n 1, 1) := by decide +kernel
theorem dX7_amplitude_13 : decode cX7_amplitude 13 = .ok (.i2l, 1) := by decide +kernel
theorem dX7_amplitude_14 : decode cX7_amplitude 14 = .ok (.lconst 0, 1) := by decide +kernel
theorem dX7_amplitude_15 : decode cX7_amplitude 15 = .ok (.aload_n 0, 1) := by decide +kernel
theorem dX7_amplitude_16 : decode cX7_amplitude 16 = .ok (.invokevirtual 149, 3) := by decide +kernel
theorem dX7_amplitude_19 : decode cX7_amplitude 19 = .ok (.i2l, 1) := by decide +kernel
theorem dX7_amplitude_20 : decode cX7_amplitude 20 = .ok (.lconst 1, 1) := by decide +kernel
theorem dX7_amplitude_21 : decode cX7_amplitude 21 = .ok (.lsub, 1) := by decide +kernel
theorem dX7_amplitude_22 : decode cX7_amplitude 22 = .ok (.invokestatic 65, 3) := by decide +kernel
theorem dX7_amplitude_25 : decode cX7_amplitude 25 = .ok (.ifCond .eq 15, 3) := by decide +kernel
theorem dX7_amplitude_28 : decode cX7_amplitude 28 = .ok (.iload_n 2, 1) := by decide +kernel
theorem dX7_amplitude_29 : decode cX7_amplitude 29 = .ok (.i2l, 1) := by decide +kernel
theorem dX7_amplitude_30 : decode cX7_amplitude 30 = .ok (.lconst 0, 1) := by decide +kernel
theorem dX7_amplitude_31 : decode cX7_amplitude 31 = .ok (.ldc2_w 265, 3) := by decide +kernel
theorem dX7_amplitude_34 : decode cX7_amplitude 34 = .ok (.invokestatic 65, 3) := by decide +kernel
theorem dX7_amplitude_37 : decode cX7_amplitude 37 = .ok (.ifCond .ne 7, 3) := by decide +kernel
theorem dX7_amplitude_40 : decode cX7_amplitude 40 = .ok (.iconst 2, 1) := by decide +kernel
theorem dX7_amplitude_41 : decode cX7_amplitude 41 = .ok (.goto 4, 3) := by decide +kernel
theorem dX7_amplitude_44 : decode cX7_amplitude 44 = .ok (.iconst 0, 1) := by decide +kernel
theorem dX7_amplitude_45 : decode cX7_amplitude 45 = .ok (.putfield 60, 3) := by decide +kernel
theorem dX7_amplitude_48 : decode cX7_amplitude 48 = .ok (.aload_n 0, 1) := by decide +kernel
theorem dX7_amplitude_49 : decode cX7_amplitude 49 = .ok (.getfield 60, 3) := by decide +kernel
theorem dX7_amplitude_52 : decode cX7_amplitude 52 = .ok (.ifCond .le 7, 3) := by decide +kernel
theorem dX7_amplitude_55 : decode cX7_amplitude 55 = .ok (.lconst 0, 1) := by decide +kernel
theorem dX7_amplitude_56 : decode cX7_amplitude 56 = .ok (.goto 13, 3) := by decide +kernel
theorem dX7_amplitude_59 : decode cX7_amplitude 59 = .ok (.aload_n 0, 1) := by decide +kernel
theorem dX7_amplitude_60 : decode cX7_amplitude 60 = .ok (.getfield 29, 3) := by decide +kernel
theorem dX7_amplitude_63 : decode cX7_amplitude 63 = .ok (.iconst 4, 1) := by decide +kernel
theorem dX7_amplitude_64 : decode cX7_amplitude 64 = .ok (.iload_n 1, 1) := by decide +kernel
theorem dX7_amplitude_65 : decode cX7_amplitude 65 = .ok (.imul, 1) := by decide +kernel
theorem dX7_amplitude_66 : decode cX7_amplitude 66 = .ok (.iload_n 2, 1) := by decide +kernel
theorem dX7_amplitude_67 : decode cX7_amplitude 67 = .ok (.iadd, 1) := by decide +kernel
theorem dX7_amplitude_68 : decode cX7_amplitude 68 = .ok (.laload, 1) := by decide +kernel
theorem dX7_amplitude_69 : decode cX7_amplitude 69 = .ok (.lreturn, 1) := by decide +kernel
theorem dX7_scale_0 : decode cX7_scale 0 = .ok (.aload_n 0, 1) := by decide +kernel
theorem dX7_scale_1 : decode cX7_scale 1 = .ok (.iconst 0, 1) := by decide +kernel
theorem dX7_scale_2 : decode cX7_scale 2 = .ok (.putfield 60, 3) := by decide +kernel
theorem dX7_scale_5 : decode cX7_scale 5 = .ok (.aload_n 0, 1) := by decide +kernel
theorem dX7_scale_6 : decode cX7_scale 6 = .ok (.getfield 71, 3) := by decide +kernel
theorem dX7_scale_9 : decode cX7_scale 9 = .ok (.ifCond .eq 10, 3) := by decide +kernel
theorem dX7_scale_12 : decode cX7_scale 12 = .ok (.aload_n 0, 1) := by decide +kernel
theorem dX7_scale_13 : decode cX7_scale 13 = .ok (.getfield 259, 3) := by decide +kernel
theorem dX7_scale_16 : decode cX7_scale 16 = .ok (.goto 4, 3) := by decide +kernel
theorem dX7_scale_19 : decode cX7_scale 19 = .ok (.iconst (-1), 1) := by decide +kernel
theorem dX7_scale_20 : decode cX7_scale 20 = .ok (.ireturn, 1) := by decide +kernel
theorem dX7_weight_0 : decode cX7_weight 0 = .ok (.aload_n 0, 1) := by decide +kernel
theorem dX7_weight_1 : decode cX7_weight 1 = .ok (.aload_n 0, 1) := by decide +kernel
theorem dX7_weight_2 : decode cX7_weight 2 = .ok (.getfield 71, 3) := by decide +kernel
theorem dX7_weight_5 : decode cX7_weight 5 = .ok (.ifCond .ne 7, 3) := by decide +kernel
theorem dX7_weight_8 : decode cX7_weight 8 = .ok (.iconst 1, 1) := by decide +kernel
theorem dX7_weight_9 : decode cX7_weight 9 = .ok (.goto 36, 3) := by decide +kernel
theorem dX7_weight_12 : decode cX7_weight 12 = .ok (.aload_n 0, 1) := by decide +kernel
theorem dX7_weight_13 : decode cX7_weight 13 = .ok (.iload_n 1, 1) := by decide +kernel
theorem dX7_weight_14 : decode cX7_weight 14 = .ok (.invokevirtual 80, 3) := by decide +kernel
theorem dX7_weight_17 : decode cX7_weight 17 = .ok (.ifCond .eq 23, 3) := by decide +kernel
theorem dX7_weight_20 : decode cX7_weight 20 = .ok (.iload_n 2, 1) := by decide +kernel
theorem dX7_weight_21 : decode cX7_weight 21 = .ok (.i2l, 1) := by decide +kernel
theorem dX7_weight_22 : decode cX7_weight 22 = .ok (.lconst 0, 1) := by decide +kernel
theorem dX7_weight_23 : decode cX7_weight 23 = .ok (.lconst 1, 1) := by decide +kernel
theorem dX7_weight_24 : decode cX7_weight 24 = .ok (.invokestatic 65, 3) := by decide +kernel
theorem dX7_weight_27 : decode cX7_weight 27 = .ok (.ifCond .eq 13, 3) := by decide +kernel
theorem dX7_weight_30 : decode cX7_weight 30 = .ok (.iload_n 3, 1) := by decide +kernel
theorem dX7_weight_31 : decode cX7_weight 31 = .ok (.i2l, 1) := by decide +kernel
theorem dX7_weight_32 : decode cX7_weight 32 = .ok (.lconst 0, 1) := by decide +kernel
theorem dX7_weight_33 : decode cX7_weight 33 = .ok (.lconst 1, 1) := by decide +kernel
theorem dX7_weight_34 : decode cX7_weight 34 = .ok (.invokestatic 65, 3) := by decide +kernel
theorem dX7_weight_37 : decode cX7_weight 37 = .ok (.ifCond .ne 7, 3) := by decide +kernel
theorem dX7_weight_40 : decode cX7_weight 40 = .ok (.iconst 2, 1) := by decide +kernel
theorem dX7_weight_41 : decode cX7_weight 41 = .ok (.goto 4, 3) := by decide +kernel
theorem dX7_weight_44 : decode cX7_weight 44 = .ok (.iconst 0, 1) := by decide +kernel
theorem dX7_weight_45 : decode cX7_weight 45 = .ok (.putfield 60, 3) := by decide +kernel
theorem dX7_weight_48 : decode cX7_weight 48 = .ok (.lconst 0, 1) := by decide +kernel
theorem dX7_weight_49 : decode cX7_weight 49 = .ok (.lstore 4, 2) := by decide +kernel
theorem dX7_weight_51 : decode cX7_weight 51 = .ok (.iconst 0, 1) := by decide +kernel
theorem dX7_weight_52 : decode cX7_weight 52 = .ok (.istore 6, 2) := by decide +kernel
theorem dX7_weight_54 : decode cX7_weight 54 = .ok (.iload 6, 2) := by decide +kernel
theorem dX7_weight_56 : decode cX7_weight 56 = .ok (.aload_n 0, 1) := by decide +kernel
theorem dX7_weight_57 : decode cX7_weight 57 = .ok (.invokevirtual 149, 3) := by decide +kernel
theorem dX7_weight_60 : decode cX7_weight 60 = .ok (.if_icmp .ge 146, 3) := by decide +kernel
theorem dX7_weight_63 : decode cX7_weight 63 = .ok (.aload_n 0, 1) := by decide +kernel
theorem dX7_weight_64 : decode cX7_weight 64 = .ok (.getfield 60, 3) := by decide +kernel
theorem dX7_weight_67 : decode cX7_weight 67 = .ok (.ifCond .ne 139, 3) := by decide +kernel
theorem dX7_weight_70 : decode cX7_weight 70 = .ok (.iload 6, 2) := by decide +kernel
theorem dX7_weight_72 : decode cX7_weight 72 = .ok (.iload_n 1, 1) := by decide +kernel
theorem dX7_weight_73 : decode cX7_weight 73 = .ok (.invokestatic 153, 3) := by decide +kernel
theorem dX7_weight_76 : decode cX7_weight 76 = .ok (.iload_n 2, 1) := by decide +kernel
theorem dX7_weight_77 : decode cX7_weight 77 = .ok (.iconst 1, 1) := by decide +kernel
theorem dX7_weight_78 : decode cX7_weight 78 = .ok (.if_icmp .ne 7, 3) := by decide +kernel
theorem dX7_weight_81 : decode cX7_weight 81 = .ok (.iconst 1, 1) := by decide +kernel
theorem dX7_weight_82 : decode cX7_weight 82 = .ok (.goto 4, 3) := by decide +kernel
theorem dX7_weight_85 : decode cX7_weight 85 = .ok (.iconst 0, 1) := by decide +kernel
theorem dX7_weight_86 : decode cX7_weight 86 = .ok (.if_icmp .eq 6, 3) := by decide +kernel
theorem dX7_weight_89 : decode cX7_weight 89 = .ok (.goto 111, 3) := by decide +kernel
theorem dX7_weight_92 : decode cX7_weight 92 = .ok (.aload_n 0, 1) := by decide +kernel
theorem dX7_weight_93 : decode cX7_weight 93 = .ok (.getfield 29, 3) := by decide +kernel
theorem dX7_weight_96 : decode cX7_weight 96 = .ok (.iconst 4, 1) := by decide +kernel
theorem dX7_weight_97 : decode cX7_weight 97 = .ok (.iload 6, 2) := by decide +kernel
theorem dX7_weight_99 : decode cX7_weight 99 = .ok (.imul, 1) := by decide +kernel
theorem dX7_weight_100 : decode cX7_weight 100 = .ok (.laload, 1) := by decide +kernel
theorem dX7_weight_101 : decode cX7_weight 101 = .ok (.lstore 7, 2) := by decide +kernel
theorem dX7_weight_103 : decode cX7_weight 103 = .ok (.aload_n 0, 1) := by decide +kernel
theorem dX7_weight_104 : decode cX7_weight 104 = .ok (.getfield 29, 3) := by decide +kernel
theorem dX7_weight_107 : decode cX7_weight 107 = .ok (.iconst 4, 1) := by decide +kernel
theorem dX7_weight_108 : decode cX7_weight 108 = .ok (.iload 6, 2) := by decide +kernel
theorem dX7_weight_110 : decode cX7_weight 110 = .ok (.imul, 1) := by decide +kernel
theorem dX7_weight_111 : decode cX7_weight 111 = .ok (.iconst 1, 1) := by decide +kernel
theorem dX7_weight_112 : decode cX7_weight 112 = .ok (.iadd, 1) := by decide +kernel
theorem dX7_weight_113 : decode cX7_weight 113 = .ok (.laload, 1) := by decide +kernel
theorem dX7_weight_114 : decode cX7_weight 114 = .ok (.lstore 9, 2) := by decide +kernel
theorem dX7_weight_116 : decode cX7_weight 116 = .ok (.aload_n 0, 1) := by decide +kernel
theorem dX7_weight_117 : decode cX7_weight 117 = .ok (.getfield 29, 3) := by decide +kernel
theorem dX7_weight_120 : decode cX7_weight 120 = .ok (.iconst 4, 1) := by decide +kernel
theorem dX7_weight_121 : decode cX7_weight 121 = .ok (.iload 6, 2) := by decide +kernel
theorem dX7_weight_123 : decode cX7_weight 123 = .ok (.imul, 1) := by decide +kernel
theorem dX7_weight_124 : decode cX7_weight 124 = .ok (.iconst 2, 1) := by decide +kernel
theorem dX7_weight_125 : decode cX7_weight 125 = .ok (.iadd, 1) := by decide +kernel
theorem dX7_weight_126 : decode cX7_weight 126 = .ok (.laload, 1) := by decide +kernel
theorem dX7_weight_127 : decode cX7_weight 127 = .ok (.lstore 11, 2) := by decide +kernel
theorem dX7_weight_129 : decode cX7_weight 129 = .ok (.aload_n 0, 1) := by decide +kernel
theorem dX7_weight_130 : decode cX7_weight 130 = .ok (.getfield 29, 3) := by decide +kernel
theorem dX7_weight_133 : decode cX7_weight 133 = .ok (.iconst 4, 1) := by decide +kernel
theorem dX7_weight_134 : decode cX7_weight 134 = .ok (.iload 6, 2) := by decide +kernel
theorem dX7_weight_136 : decode cX7_weight 136 = .ok (.imul, 1) := by decide +kernel
theorem dX7_weight_137 : decode cX7_weight 137 = .ok (.iconst 3, 1) := by decide +kernel
theorem dX7_weight_138 : decode cX7_weight 138 = .ok (.iadd, 1) := by decide +kernel
theorem dX7_weight_139 : decode cX7_weight 139 = .ok (.laload, 1) := by decide +kernel
theorem dX7_weight_140 : decode cX7_weight 140 = .ok (.lstore 13, 2) := by decide +kernel
theorem dX7_weight_142 : decode cX7_weight 142 = .ok (.lload 4, 2) := by decide +kernel
theorem dX7_weight_144 : decode cX7_weight 144 = .ok (.iload_n 3, 1) := by decide +kernel
theorem dX7_weight_145 : decode cX7_weight 145 = .ok (.ifCond .ne 29, 3) := by decide +kernel
theorem dX7_weight_148 : decode cX7_weight 148 = .ok (.lload 7, 2) := by decide +kernel
theorem dX7_weight_150 : decode cX7_weight 150 = .ok (.lload 7, 2) := by decide +kernel
theorem dX7_weight_152 : decode cX7_weight 152 = .ok (.lmul, 1) := by decide +kernel
theorem dX7_weight_153 : decode cX7_weight 153 = .ok (.lload 9, 2) := by decide +kernel
theorem dX7_weight_155 : decode cX7_weight 155 = .ok (.lload 9, 2) := by decide +kernel
theorem dX7_weight_157 : decode cX7_weight 157 = .ok (.lmul, 1) := by decide +kernel
theorem dX7_weight_158 : decode cX7_weight 158 = .ok (.ladd, 1) := by decide +kernel
theorem dX7_weight_159 : decode cX7_weight 159 = .ok (.lload 11, 2) := by decide +kernel
theorem dX7_weight_161 : decode cX7_weight 161 = .ok (.lload 11, 2) := by decide +kernel
theorem dX7_weight_163 : decode cX7_weight 163 = .ok (.lmul, 1) := by decide +kernel
theorem dX7_weight_164 : decode cX7_weight 164 = .ok (.ladd, 1) := by decide +kernel
theorem dX7_weight_165 : decode cX7_weight 165 = .ok (.lload 13, 2) := by decide +kernel
theorem dX7_weight_167 : decode cX7_weight 167 = .ok (.lload 13, 2) := by decide +kernel
theorem dX7_weight_169 : decode cX7_weight 169 = .ok (.lmul, 1) := by decide +kernel
theorem dX7_weight_170 : decode cX7_weight 170 = .ok (.ladd, 1) := by decide +kernel
theorem dX7_weight_171 : decode cX7_weight 171 = .ok (.goto 26, 3) := by decide +kernel
theorem dX7_weight_174 : decode cX7_weight 174 = .ok (.lload 7, 2) := by decide +kernel
theorem dX7_weight_176 : decode cX7_weight 176 = .ok (.lload 9, 2) := by decide +kernel
theorem dX7_weight_178 : decode cX7_weight 178 = .ok (.lmul, 1) := by decide +kernel
theorem dX7_weight_179 : decode cX7_weight 179 = .ok (.lload 9, 2) := by decide +kernel
theorem dX7_weight_181 : decode cX7_weight 181 = .ok (.lload 11, 2) := by decide +kernel
theorem dX7_weight_183 : decode cX7_weight 183 = .ok (.lmul, 1) := by decide +kernel
theorem dX7_weight_184 : decode cX7_weight 184 = .ok (.ladd, 1) := by decide +kernel
theorem dX7_weight_185 : decode cX7_weight 185 = .ok (.lload 11, 2) := by decide +kernel
theorem dX7_weight_187 : decode cX7_weight 187 = .ok (.lload 13, 2) := by decide +kernel
theorem dX7_weight_189 : decode cX7_weight 189 = .ok (.lmul, 1) := by decide +kernel
theorem dX7_weight_190 : decode cX7_weight 190 = .ok (.ladd, 1) := by decide +kernel
theorem dX7_weight_191 : decode cX7_weight 191 = .ok (.lload 13, 2) := by decide +kernel
theorem dX7_weight_193 : decode cX7_weight 193 = .ok (.lload 7, 2) := by decide +kernel
theorem dX7_weight_195 : decode cX7_weight 195 = .ok (.lmul, 1) := by decide +kernel
theorem dX7_weight_196 : decode cX7_weight 196 = .ok (.lsub, 1) := by decide +kernel
theorem dX7_weight_197 : decode cX7_weight 197 = .ok (.ladd, 1) := by decide +kernel
theorem dX7_weight_198 : decode cX7_weight 198 = .ok (.lstore 4, 2) := by decide +kernel
theorem dX7_weight_200 : decode cX7_weight 200 = .ok (.iinc 6 1, 3) := by decide +kernel
theorem dX7_weight_203 : decode cX7_weight 203 = .ok (.goto (-149), 3) := by decide +kernel
theorem dX7_weight_206 : decode cX7_weight 206 = .ok (.lload 4, 2) := by decide +kernel
theorem dX7_weight_208 : decode cX7_weight 208 = .ok (.lreturn, 1) := by decide +kernel
theorem dX7_measure_0 : decode cX7_measure 0 = .ok (.aload_n 0, 1) := by decide +kernel
theorem dX7_measure_1 : decode cX7_measure 1 = .ok (.aload_n 0, 1) := by decide +kernel
theorem dX7_measure_2 : decode cX7_measure 2 = .ok (.getfield 71, 3) := by decide +kernel
theorem dX7_measure_5 : decode cX7_measure 5 = .ok (.ifCond .ne 7, 3) := by decide +kernel
theorem dX7_measure_8 : decode cX7_measure 8 = .ok (.iconst 1, 1) := by decide +kernel
theorem dX7_measure_9 : decode cX7_measure 9 = .ok (.goto 26, 3) := by decide +kernel
theorem dX7_measure_12 : decode cX7_measure 12 = .ok (.aload_n 0, 1) := by decide +kernel
theorem dX7_measure_13 : decode cX7_measure 13 = .ok (.iload_n 1, 1) := by decide +kernel
theorem dX7_measure_14 : decode cX7_measure 14 = .ok (.invokevirtual 80, 3) := by decide +kernel
theorem dX7_measure_17 : decode cX7_measure 17 = .ok (.ifCond .eq 13, 3) := by decide +kernel
theorem dX7_measure_20 : decode cX7_measure 20 = .ok (.iload_n 2, 1) := by decide +kernel
theorem dX7_measure_21 : decode cX7_measure 21 = .ok (.i2l, 1) := by decide +kernel
theorem dX7_measure_22 : decode cX7_measure 22 = .ok (.lconst 0, 1) := by decide +kernel
theorem dX7_measure_23 : decode cX7_measure 23 = .ok (.lconst 1, 1) := by decide +kernel
theorem dX7_measure_24 : decode cX7_measure 24 = .ok (.invokestatic 65, 3) := by decide +kernel
theorem dX7_measure_27 : decode cX7_measure 27 = .ok (.ifCond .ne 7, 3) := by decide +kernel
theorem dX7_measure_30 : decode cX7_measure 30 = .ok (.iconst 2, 1) := by decide +kernel
theorem dX7_measure_31 : decode cX7_measure 31 = .ok (.goto 4, 3) := by decide +kernel
theorem dX7_measure_34 : decode cX7_measure 34 = .ok (.iconst 0, 1) := by decide +kernel
theorem dX7_measure_35 : decode cX7_measure 35 = .ok (.putfield 60, 3) := by decide +kernel
theorem dX7_measure_38 : decode cX7_measure 38 = .ok (.iconst 0, 1) := by decide +kernel
theorem dX7_measure_39 : decode cX7_measure 39 = .ok (.istore_n 3, 1) := by decide +kernel
theorem dX7_measure_40 : decode cX7_measure 40 = .ok (.iconst 0, 1) := by decide +kernel
theorem dX7_measure_41 : decode cX7_measure 41 = .ok (.istore 4, 2) := by decide +kernel
theorem dX7_measure_43 : decode cX7_measure 43 = .ok (.iload 4, 2) := by decide +kernel
theorem dX7_measure_45 : decode cX7_measure 45 = .ok (.iconst 4, 1) := by decide +kernel
theorem dX7_measure_46 : decode cX7_measure 46 = .ok (.aload_n 0, 1) := by decide +kernel
theorem dX7_measure_47 : decode cX7_measure 47 = .ok (.invokevirtual 149, 3) := by decide +kernel
theorem dX7_measure_50 : decode cX7_measure 50 = .ok (.imul, 1) := by decide +kernel
theorem dX7_measure_51 : decode cX7_measure 51 = .ok (.if_icmp .ge 59, 3) := by decide +kernel
theorem dX7_measure_54 : decode cX7_measure 54 = .ok (.aload_n 0, 1) := by decide +kernel
theorem dX7_measure_55 : decode cX7_measure 55 = .ok (.getfield 60, 3) := by decide +kernel
theorem dX7_measure_58 : decode cX7_measure 58 = .ok (.ifCond .ne 52, 3) := by decide +kernel
theorem dX7_measure_61 : decode cX7_measure 61 = .ok (.iload_n 3, 1) := by decide +kernel
theorem dX7_measure_62 : decode cX7_measure 62 = .ok (.ifCond .ne 36, 3) := by decide +kernel
theorem dX7_measure_65 : decode cX7_measure 65 = .ok (.iload 4, 2) := by decide +kernel
theorem dX7_measure_67 : decode cX7_measure 67 = .ok (.iconst 4, 1) := by decide +kernel
theorem dX7_measure_68 : decode cX7_measure 68 = .ok (.idiv, 1) := by decide +kernel
theorem dX7_measure_69 : decode cX7_measure 69 = .ok (.iload_n 1, 1) := by decide +kernel
theorem dX7_measure_70 : decode cX7_measure 70 = .ok (.invokestatic 153, 3) := by decide +kernel
theorem dX7_measure_73 : decode cX7_measure 73 = .ok (.iload_n 2, 1) := by decide +kernel
theorem dX7_measure_74 : decode cX7_measure 74 = .ok (.iconst 1, 1) := by decide +kernel
theorem dX7_measure_75 : decode cX7_measure 75 = .ok (.if_icmp .ne 7, 3) := by decide +kernel
theorem dX7_measure_78 : decode cX7_measure 78 = .ok (.iconst 1, 1) := by decide +kernel
theorem dX7_measure_79 : decode cX7_measure 79 = .ok (.goto 4, 3) := by decide +kernel
theorem dX7_measure_82 : decode cX7_measure 82 = .ok (.iconst 0, 1) := by decide +kernel
theorem dX7_measure_83 : decode cX7_measure 83 = .ok (.if_icmp .ne 19, 3) := by decide +kernel
theorem dX7_measure_86 : decode cX7_measure 86 = .ok (.aload_n 0, 1) := by decide +kernel
theorem dX7_measure_87 : decode cX7_measure 87 = .ok (.getfield 29, 3) := by decide +kernel
theorem dX7_measure_90 : decode cX7_measure 90 = .ok (.iload 4, 2) := by decide +kernel
theorem dX7_measure_92 : decode cX7_measure 92 = .ok (.laload, 1) := by decide +kernel
theorem dX7_measure_93 : decode cX7_measure 93 = .ok (.lconst 0, 1) := by decide +kernel
theorem dX7_measure_94 : decode cX7_measure 94 = .ok (.lcmp, 1) := by decide +kernel
theorem dX7_measure_95 : decode cX7_measure 95 = .ok (.ifCond .eq 7, 3) := by decide +kernel
theorem dX7_measure_98 : decode cX7_measure 98 = .ok (.iconst 1, 1) := by decide +kernel
theorem dX7_measure_99 : decode cX7_measure 99 = .ok (.goto 4, 3) := by decide +kernel
theorem dX7_measure_102 : decode cX7_measure 102 = .ok (.iconst 0, 1) := by decide +kernel
theorem dX7_measure_103 : decode cX7_measure 103 = .ok (.istore_n 3, 1) := by decide +kernel
theorem dX7_measure_104 : decode cX7_measure 104 = .ok (.iinc 4 1, 3) := by decide +kernel
theorem dX7_measure_107 : decode cX7_measure 107 = .ok (.goto (-64), 3) := by decide +kernel
theorem dX7_measure_110 : decode cX7_measure 110 = .ok (.iload_n 3, 1) := by decide +kernel
theorem dX7_measure_111 : decode cX7_measure 111 = .ok (.ifCond .ne 5, 3) := by decide +kernel
theorem dX7_measure_114 : decode cX7_measure 114 = .ok (.iconst 0, 1) := by decide +kernel
theorem dX7_measure_115 : decode cX7_measure 115 = .ok (.ireturn, 1) := by decide +kernel
theorem dX7_measure_116 : decode cX7_measure 116 = .ok (.iconst 0, 1) := by decide +kernel
theorem dX7_measure_117 : decode cX7_measure 117 = .ok (.istore 4, 2) := by decide +kernel
theorem dX7_measure_119 : decode cX7_measure 119 = .ok (.iload 4, 2) := by decide +kernel
theorem dX7_measure_121 : decode cX7_measure 121 = .ok (.iconst 4, 1) := by decide +kernel
theorem dX7_measure_122 : decode cX7_measure 122 = .ok (.aload_n 0, 1) := by decide +kernel
theorem dX7_measure_123 : decode cX7_measure 123 = .ok (.invokevirtual 149, 3) := by decide +kernel
theorem dX7_measure_126 : decode cX7_measure 126 = .ok (.imul, 1) := by decide +kernel
theorem dX7_measure_127 : decode cX7_measure 127 = .ok (.if_icmp .ge 48, 3) := by decide +kernel
theorem dX7_measure_130 : decode cX7_measure 130 = .ok (.aload_n 0, 1) := by decide +kernel
theorem dX7_measure_131 : decode cX7_measure 131 = .ok (.getfield 29, 3) := by decide +kernel
theorem dX7_measure_134 : decode cX7_measure 134 = .ok (.iload 4, 2) := by decide +kernel
theorem dX7_measure_136 : decode cX7_measure 136 = .ok (.iload 4, 2) := by decide +kernel
theorem dX7_measure_138 : decode cX7_measure 138 = .ok (.iconst 4, 1) := by decide +kernel
theorem dX7_measure_139 : decode cX7_measure 139 = .ok (.idiv, 1) := by decide +kernel
theorem dX7_measure_140 : decode cX7_measure 140 = .ok (.iload_n 1, 1) := by decide +kernel
theorem dX7_measure_141 : decode cX7_measure 141 = .ok (.invokestatic 153, 3) := by decide +kernel
theorem dX7_measure_144 : decode cX7_measure 144 = .ok (.iload_n 2, 1) := by decide +kernel
theorem dX7_measure_145 : decode cX7_measure 145 = .ok (.iconst 1, 1) := by decide +kernel
theorem dX7_measure_146 : decode cX7_measure 146 = .ok (.if_icmp .ne 7, 3) := by decide +kernel
theorem dX7_measure_149 : decode cX7_measure 149 = .ok (.iconst 1, 1) := by decide +kernel
theorem dX7_measure_150 : decode cX7_measure 150 = .ok (.goto 4, 3) := by decide +kernel
theorem dX7_measure_153 : decode cX7_measure 153 = .ok (.iconst 0, 1) := by decide +kernel
theorem dX7_measure_154 : decode cX7_measure 154 = .ok (.if_icmp .ne 13, 3) := by decide +kernel
theorem dX7_measure_157 : decode cX7_measure 157 = .ok (.aload_n 0, 1) := by decide +kernel
theorem dX7_measure_158 : decode cX7_measure 158 = .ok (.getfield 29, 3) := by decide +kernel
theorem dX7_measure_161 : decode cX7_measure 161 = .ok (.iload 4, 2) := by decide +kernel
theorem dX7_measure_163 : decode cX7_measure 163 = .ok (.laload, 1) := by decide +kernel
theorem dX7_measure_164 : decode cX7_measure 164 = .ok (.goto 4, 3) := by decide +kernel
theorem dX7_measure_167 : decode cX7_measure 167 = .ok (.lconst 0, 1) := by decide +kernel
theorem dX7_measure_168 : decode cX7_measure 168 = .ok (.lastore, 1) := by decide +kernel
theorem dX7_measure_169 : decode cX7_measure 169 = .ok (.iinc 4 1, 3) := by decide +kernel
theorem dX7_measure_172 : decode cX7_measure 172 = .ok (.goto (-53), 3) := by decide +kernel
theorem dX7_measure_175 : decode cX7_measure 175 = .ok (.aload_n 0, 1) := by decide +kernel
theorem dX7_measure_176 : decode cX7_measure 176 = .ok (.invokevirtual 262, 3) := by decide +kernel
theorem dX7_measure_179 : decode cX7_measure 179 = .ok (.iconst 1, 1) := by decide +kernel
theorem dX7_measure_180 : decode cX7_measure 180 = .ok (.ireturn, 1) := by decide +kernel
theorem dX7_row_0 : decode cX7_row 0 = .ok (.aload_n 0, 1) := by decide +kernel
theorem dX7_row_1 : decode cX7_row 1 = .ok (.iload_n 1, 1) := by decide +kernel
theorem dX7_row_2 : decode cX7_row 2 = .ok (.invokestatic 88, 3) := by decide +kernel
theorem dX7_row_5 : decode cX7_row 5 = .ok (.ifCond .eq 15, 3) := by decide +kernel
theorem dX7_row_8 : decode cX7_row 8 = .ok (.aload_n 0, 1) := by decide +kernel
theorem dX7_row_9 : decode cX7_row 9 = .ok (.iload_n 2, 1) := by decide +kernel
theorem dX7_row_10 : decode cX7_row 10 = .ok (.invokevirtual 80, 3) := by decide +kernel
theorem dX7_row_13 : decode cX7_row 13 = .ok (.ifCond .eq 7, 3) := by decide +kernel
theorem dX7_row_16 : decode cX7_row 16 = .ok (.iconst 0, 1) := by decide +kernel
theorem dX7_row_17 : decode cX7_row 17 = .ok (.goto 4, 3) := by decide +kernel
theorem dX7_row_20 : decode cX7_row 20 = .ok (.iconst 1, 1) := by decide +kernel
theorem dX7_row_21 : decode cX7_row 21 = .ok (.putfield 60, 3) := by decide +kernel
theorem dX7_row_24 : decode cX7_row 24 = .ok (.iconst 0, 1) := by decide +kernel
theorem dX7_row_25 : decode cX7_row 25 = .ok (.istore_n 3, 1) := by decide +kernel
theorem dX7_row_26 : decode cX7_row 26 = .ok (.aload_n 0, 1) := by decide +kernel
theorem dX7_row_27 : decode cX7_row 27 = .ok (.getfield 60, 3) := by decide +kernel
theorem dX7_row_30 : decode cX7_row 30 = .ok (.ifCond .ne 54, 3) := by decide +kernel
theorem dX7_row_33 : decode cX7_row 33 = .ok (.iload_n 3, 1) := by decide +kernel
theorem dX7_row_34 : decode cX7_row 34 = .ok (.aload_n 0, 1) := by decide +kernel
theorem dX7_row_35 : decode cX7_row 35 = .ok (.getfield 13, 3) := by decide +kernel
theorem dX7_row_38 : decode cX7_row 38 = .ok (.iload_n 1, 1) := by decide +kernel
theorem dX7_row_39 : decode cX7_row 39 = .ok (.iaload, 1) := by decide +kernel
theorem dX7_row_40 : decode cX7_row 40 = .ok (.if_icmp .ge 44, 3) := by decide +kernel
theorem dX7_row_43 : decode cX7_row 43 = .ok (.aload_n 0, 1) := by decide +kernel
theorem dX7_row_44 : decode cX7_row 44 = .ok (.getfield 17, 3) := by decide +kernel
theorem dX7_row_47 : decode cX7_row 47 = .ok (.bipush 64, 2) := by decide +kernel
theorem dX7_row_49 : decode cX7_row 49 = .ok (.iload_n 1, 1) := by decide +kernel
theorem dX7_row_50 : decode cX7_row 50 = .ok (.imul, 1) := by decide +kernel
theorem dX7_row_51 : decode cX7_row 51 = .ok (.iload_n 3, 1) := by decide +kernel
theorem dX7_row_52 : decode cX7_row 52 = .ok (.iadd, 1) := by decide +kernel
theorem dX7_row_53 : decode cX7_row 53 = .ok (.iaload, 1) := by decide +kernel
theorem dX7_row_54 : decode cX7_row 54 = .ok (.istore 4, 2) := by decide +kernel
theorem dX7_row_56 : decode cX7_row 56 = .ok (.aload_n 0, 1) := by decide +kernel
theorem dX7_row_57 : decode cX7_row 57 = .ok (.iload 4, 2) := by decide +kernel
theorem dX7_row_59 : decode cX7_row 59 = .ok (.iconst 3, 1) := by decide +kernel
theorem dX7_row_60 : decode cX7_row 60 = .ok (.if_icmp .eq 10, 3) := by decide +kernel
theorem dX7_row_63 : decode cX7_row 63 = .ok (.iload 4, 2) := by decide +kernel
theorem dX7_row_65 : decode cX7_row 65 = .ok (.bipush 9, 2) := by decide +kernel
theorem dX7_row_67 : decode cX7_row 67 = .ok (.if_icmp .ne 7, 3) := by decide +kernel
theorem dX7_row_70 : decode cX7_row 70 = .ok (.iconst 2, 1) := by decide +kernel
theorem dX7_row_71 : decode cX7_row 71 = .ok (.goto 4, 3) := by decide +kernel
theorem dX7_row_74 : decode cX7_row 74 = .ok (.iconst 0, 1) := by decide +kernel
theorem dX7_row_75 : decode cX7_row 75 = .ok (.putfield 60, 3) := by decide +kernel
theorem dX7_row_78 : decode cX7_row 78 = .ok (.iinc 3 1, 3) := by decide +kernel
theorem dX7_row_81 : decode cX7_row 81 = .ok (.goto (-55), 3) := by decide +kernel
theorem dX7_row_84 : decode cX7_row 84 = .ok (.aload_n 0, 1) := by decide +kernel
theorem dX7_row_85 : decode cX7_row 85 = .ok (.getfield 60, 3) := by decide +kernel
theorem dX7_row_88 : decode cX7_row 88 = .ok (.ifCond .le 5, 3) := by decide +kernel
theorem dX7_row_91 : decode cX7_row 91 = .ok (.iconst 0, 1) := by decide +kernel
theorem dX7_row_92 : decode cX7_row 92 = .ok (.ireturn, 1) := by decide +kernel
theorem dX7_row_93 : decode cX7_row 93 = .ok (.iconst 0, 1) := by decide +kernel
theorem dX7_row_94 : decode cX7_row 94 = .ok (.istore_n 3, 1) := by decide +kernel
theorem dX7_row_95 : decode cX7_row 95 = .ok (.iconst 1, 1) := by decide +kernel
theorem dX7_row_96 : decode cX7_row 96 = .ok (.iload_n 2, 1) := by decide +kernel
theorem dX7_row_97 : decode cX7_row 97 = .ok (.ishl, 1) := by decide +kernel
theorem dX7_row_98 : decode cX7_row 98 = .ok (.istore 4, 2) := by decide +kernel
theorem dX7_row_100 : decode cX7_row 100 = .ok (.iconst 0, 1) := by decide +kernel
theorem dX7_row_101 : decode cX7_row 101 = .ok (.istore 5, 2) := by decide +kernel
theorem dX7_row_103 : decode cX7_row 103 = .ok (.iconst 0, 1) := by decide +kernel
theorem dX7_row_104 : decode cX7_row 104 = .ok (.istore 6, 2) := by decide +kernel
theorem dX7_row_106 : decode cX7_row 106 = .ok (.iload 6, 2) := by decide +kernel
theorem dX7_row_108 : decode cX7_row 108 = .ok (.aload_n 0, 1) := by decide +kernel
theorem dX7_row_109 : decode cX7_row 109 = .ok (.getfield 13, 3) := by decide +kernel
theorem dX7_row_112 : decode cX7_row 112 = .ok (.iload_n 1, 1) := by decide +kernel
theorem dX7_row_113 : decode cX7_row 113 = .ok (.iaload, 1) := by decide +kernel
theorem dX7_row_114 : decode cX7_row 114 = .ok (.if_icmp .ge 332, 3) := by decide +kernel
theorem dX7_row_117 : decode cX7_row 117 = .ok (.bipush 64, 2) := by decide +kernel
theorem dX7_row_119 : decode cX7_row 119 = .ok (.iload_n 1, 1) := by decide +kernel
theorem dX7_row_120 : decode cX7_row 120 = .ok (.imul, 1) := by decide +kernel
theorem dX7_row_121 : decode cX7_row 121 = .ok (.iload 6, 2) := by decide +kernel
theorem dX7_row_123 : decode cX7_row 123 = .ok (.iadd, 1) := by decide +kernel
theorem dX7_row_124 : decode cX7_row 124 = .ok (.istore 7, 2) := by decide +kernel
theorem dX7_row_126 : decode cX7_row 126 = .ok (.aload_n 0, 1) := by decide +kernel
theorem dX7_row_127 : decode cX7_row 127 = .ok (.getfield 20, 3) := by decide +kernel
theorem dX7_row_130 : decode cX7_row 130 = .ok (.iload 7, 2) := by decide +kernel
theorem dX7_row_132 : decode cX7_row 132 = .ok (.iaload, 1) := by decide +kernel
theorem dX7_row_133 : decode cX7_row 133 = .ok (.istore 8, 2) := by decide +kernel
theorem dX7_row_135 : decode cX7_row 135 = .ok (.aload_n 0, 1) := by decide +kernel
theorem dX7_row_136 : decode cX7_row 136 = .ok (.getfield 23, 3) := by decide +kernel
theorem dX7_row_139 : decode cX7_row 139 = .ok (.iload 7, 2) := by decide +kernel
theorem dX7_row_141 : decode cX7_row 141 = .ok (.iaload, 1) := by decide +kernel
theorem dX7_row_142 : decode cX7_row 142 = .ok (.ifCond .ge 7, 3) := by decide +kernel
theorem dX7_row_145 : decode cX7_row 145 = .ok (.iconst 0, 1) := by decide +kernel
theorem dX7_row_146 : decode cX7_row 146 = .ok (.goto 10, 3) := by decide +kernel
theorem dX7_row_149 : decode cX7_row 149 = .ok (.aload_n 0, 1) := by decide +kernel
theorem dX7_row_150 : decode cX7_row 150 = .ok (.getfield 23, 3) := by decide +kernel
theorem dX7_row_153 : decode cX7_row 153 = .ok (.iload 7, 2) := by decide +kernel
theorem dX7_row_155 : decode cX7_row 155 = .ok (.iaload, 1) := by decide +kernel
theorem dX7_row_156 : decode cX7_row 156 = .ok (.istore 9, 2) := by decide +kernel
theorem dX7_row_158 : decode cX7_row 158 = .ok (.iload_n 3, 1) := by decide +kernel
theorem dX7_row_159 : decode cX7_row 159 = .ok (.iload 8, 2) := by decide +kernel
theorem dX7_row_161 : decode cX7_row 161 = .ok (.ishr, 1) := by decide +kernel
theorem dX7_row_162 : decode cX7_row 162 = .ok (.iconst 1, 1) := by decide +kernel
theorem dX7_row_163 : decode cX7_row 163 = .ok (.iand, 1) := by decide +kernel
theorem dX7_row_164 : decode cX7_row 164 = .ok (.istore 10, 2) := by decide +kernel
theorem dX7_row_166 : decode cX7_row 166 = .ok (.iload 4, 2) := by decide +kernel
theorem dX7_row_168 : decode cX7_row 168 = .ok (.iload 8, 2) := by decide +kernel
theorem dX7_row_170 : decode cX7_row 170 = .ok (.ishr, 1) := by decide +kernel
theorem dX7_row_171 : decode cX7_row 171 = .ok (.iconst 1, 1) := by decide +kernel
theorem dX7_row_172 : decode cX7_row 172 = .ok (.iand, 1) := by decide +kernel
theorem dX7_row_173 : decode cX7_row 173 = .ok (.istore 11, 2) := by decide +kernel
theorem dX7_row_175 : decode cX7_row 175 = .ok (.iload_n 3, 1) := by decide +kernel
theorem dX7_row_176 : decode cX7_row 176 = .ok (.iload 9, 2) := by decide +kernel
theorem dX7_row_178 : decode cX7_row 178 = .ok (.ishr, 1) := by decide +kernel
theorem dX7_row_179 : decode cX7_row 179 = .ok (.iconst 1, 1) := by decide +kernel
theorem dX7_row_180 : decode cX7_row 180 = .ok (.iand, 1) := by decide +kernel
theorem dX7_row_181 : decode cX7_row 181 = .ok (.istore 12, 2) := by decide +kernel
theorem dX7_row_183 : decode cX7_row 183 = .ok (.iload 4, 2) := by decide +kernel
theorem dX7_row_185 : decode cX7_row 185 = .ok (.iload 9, 2) := by decide +kernel
theorem dX7_row_187 : decode cX7_row 187 = .ok (.ishr, 1) := by decide +kernel
theorem dX7_row_188 : decode cX7_row 188 = .ok (.iconst 1, 1) := by decide +kernel
theorem dX7_row_189 : decode cX7_row 189 = .ok (.iand, 1) := by decide +kernel
theorem dX7_row_190 : decode cX7_row 190 = .ok (.istore 13, 2) := by decide +kernel
theorem dX7_row_192 : decode cX7_row 192 = .ok (.aload_n 0, 1) := by decide +kernel
theorem dX7_row_193 : decode cX7_row 193 = .ok (.getfield 17, 3) := by decide +kernel
theorem dX7_row_196 : decode cX7_row 196 = .ok (.iload 7, 2) := by decide +kernel
theorem dX7_row_198 : decode cX7_row 198 = .ok (.iaload, 1) := by decide +kernel
theorem dX7_row_199 : decode cX7_row 199 = .ok (.tableswitch 199 1 7 #[41, 78, 199, 101, 111, 121, 160], 41) := by decide +kernel
theorem dX7_row_240 : decode cX7_row 240 = .ok (.iload 5, 2) := by decide +kernel
theorem dX7_row_242 : decode cX7_row 242 = .ok (.iload 10, 2) := by decide +kernel
theorem dX7_row_244 : decode cX7_row 244 = .ok (.iload 11, 2) := by decide +kernel
theorem dX7_row_246 : decode cX7_row 246 = .ok (.iand, 1) := by decide +kernel
theorem dX7_row_247 : decode cX7_row 247 = .ok (.ixor, 1) := by decide +kernel
theorem dX7_row_248 : decode cX7_row 248 = .ok (.istore 5, 2) := by decide +kernel
theorem dX7_row_250 : decode cX7_row 250 = .ok (.iload_n 3, 1) := by decide +kernel
theorem dX7_row_251 : decode cX7_row 251 = .ok (.iload 10, 2) := by decide +kernel
theorem dX7_row_253 : decode cX7_row 253 = .ok (.iload 11, 2) := by decide +kernel
theorem dX7_row_255 : decode cX7_row 255 = .ok (.ixor, 1) := by decide +kernel
theorem dX7_row_256 : decode cX7_row 256 = .ok (.iload 8, 2) := by decide +kernel
theorem dX7_row_258 : decode cX7_row 258 = .ok (.ishl, 1) := by decide +kernel
theorem dX7_row_259 : decode cX7_row 259 = .ok (.ixor, 1) := by decide +kernel
theorem dX7_row_260 : decode cX7_row 260 = .ok (.istore_n 3, 1) := by decide +kernel
theorem dX7_row_261 : decode cX7_row 261 = .ok (.iload 4, 2) := by decide +kernel
theorem dX7_row_263 : decode cX7_row 263 = .ok (.iload 10, 2) := by decide +kernel
theorem dX7_row_265 : decode cX7_row 265 = .ok (.iload 11, 2) := by decide +kernel
theorem dX7_row_267 : decode cX7_row 267 = .ok (.ixor, 1) := by decide +kernel
theorem dX7_row_268 : decode cX7_row 268 = .ok (.iload 8, 2) := by decide +kernel
theorem dX7_row_270 : decode cX7_row 270 = .ok (.ishl, 1) := by decide +kernel
theorem dX7_row_271 : decode cX7_row 271 = .ok (.ixor, 1) := by decide +kernel
theorem dX7_row_272 : decode cX7_row 272 = .ok (.istore 4, 2) := by decide +kernel
theorem dX7_row_274 : decode cX7_row 274 = .ok (.goto 166, 3) := by decide +kernel
theorem dX7_row_277 : decode cX7_row 277 = .ok (.iload 5, 2) := by decide +kernel
theorem dX7_row_279 : decode cX7_row 279 = .ok (.iload 10, 2) := by decide +kernel
theorem dX7_row_281 : decode cX7_row 281 = .ok (.iload 11, 2) := by decide +kernel
theorem dX7_row_283 : decode cX7_row 283 = .ok (.iand, 1) := by decide +kernel
theorem dX7_row_284 : decode cX7_row 284 = .ok (.ixor, 1) := by decide +kernel
theorem dX7_row_285 : decode cX7_row 285 = .ok (.istore 5, 2) := by decide +kernel
theorem dX7_row_287 : decode cX7_row 287 = .ok (.iload 4, 2) := by decide +kernel
theorem dX7_row_289 : decode cX7_row 289 = .ok (.iload 10, 2) := by decide +kernel
theorem dX7_row_291 : decode cX7_row 291 = .ok (.iload 8, 2) := by decide +kernel
theorem dX7_row_293 : decode cX7_row 293 = .ok (.ishl, 1) := by decide +kernel
theorem dX7_row_294 : decode cX7_row 294 = .ok (.ixor, 1) := by decide +kernel
theorem dX7_row_295 : decode cX7_row 295 = .ok (.istore 4, 2) := by decide +kernel
theorem dX7_row_297 : decode cX7_row 297 = .ok (.goto 143, 3) := by decide +kernel
theorem dX7_row_300 : decode cX7_row 300 = .ok (.iload 5, 2) := by decide +kernel
theorem dX7_row_302 : decode cX7_row 302 = .ok (.iload 11, 2) := by decide +kernel
theorem dX7_row_304 : decode cX7_row 304 = .ok (.ixor, 1) := by decide +kernel
theorem dX7_row_305 : decode cX7_row 305 = .ok (.istore 5, 2) := by decide +kernel
theorem dX7_row_307 : decode cX7_row 307 = .ok (.goto 133, 3) := by decide +kernel
theorem dX7_row_310 : decode cX7_row 310 = .ok (.iload 5, 2) := by decide +kernel
theorem dX7_row_312 : decode cX7_row 312 = .ok (.iload 10, 2) := by decide +kernel
theorem dX7_row_314 : decode cX7_row 314 = .ok (.ixor, 1) := by decide +kernel
theorem dX7_row_315 : decode cX7_row 315 = .ok (.istore 5, 2) := by decide +kernel
theorem dX7_row_317 : decode cX7_row 317 = .ok (.goto 123, 3) := by decide +kernel
theorem dX7_row_320 : decode cX7_row 320 = .ok (.iload 5, 2) := by decide +kernel
theorem dX7_row_322 : decode cX7_row 322 = .ok (.iload 10, 2) := by decide +kernel
theorem dX7_row_324 : decode cX7_row 324 = .ok (.iload 13, 2) := by decide +kernel
theorem dX7_row_326 : decode cX7_row 326 = .ok (.iand, 1) := by decide +kernel
theorem dX7_row_327 : decode cX7_row 327 = .ok (.iload 12, 2) := by decide +kernel
theorem dX7_row_329 : decode cX7_row 329 = .ok (.iload 11, 2) := by decide +kernel
theorem dX7_row_331 : decode cX7_row 331 = .ok (.ixor, 1) := by decide +kernel
theorem dX7_row_332 : decode cX7_row 332 = .ok (.iconst 1, 1) := by decide +kernel
theorem dX7_row_333 : decode cX7_row 333 = .ok (.ixor, 1) := by decide +kernel
theorem dX7_row_334 : decode cX7_row 334 = .ok (.iand, 1) := by decide +kernel
theorem dX7_row_335 : decode cX7_row 335 = .ok (.ixor, 1) := by decide +kernel
theorem dX7_row_336 : decode cX7_row 336 = .ok (.istore 5, 2) := by decide +kernel
theorem dX7_row_338 : decode cX7_row 338 = .ok (.iload_n 3, 1) := by decide +kernel
theorem dX7_row_339 : decode cX7_row 339 = .ok (.iload 10, 2) := by decide +kernel
theorem dX7_row_341 : decode cX7_row 341 = .ok (.iload 9, 2) := by decide +kernel
theorem dX7_row_343 : decode cX7_row 343 = .ok (.ishl, 1) := by decide +kernel
theorem dX7_row_344 : decode cX7_row 344 = .ok (.ixor, 1) := by decide +kernel
theorem dX7_row_345 : decode cX7_row 345 = .ok (.istore_n 3, 1) := by decide +kernel
theorem dX7_row_346 : decode cX7_row 346 = .ok (.iload 4, 2) := by decide +kernel
theorem dX7_row_348 : decode cX7_row 348 = .ok (.iload 13, 2) := by decide +kernel
theorem dX7_row_350 : decode cX7_row 350 = .ok (.iload 8, 2) := by decide +kernel
theorem dX7_row_352 : decode cX7_row 352 = .ok (.ishl, 1) := by decide +kernel
theorem dX7_row_353 : decode cX7_row 353 = .ok (.ixor, 1) := by decide +kernel
theorem dX7_row_354 : decode cX7_row 354 = .ok (.istore 4, 2) := by decide +kernel
theorem dX7_row_356 : decode cX7_row 356 = .ok (.goto 84, 3) := by decide +kernel
theorem dX7_row_359 : decode cX7_row 359 = .ok (.iload 5, 2) := by decide +kernel
theorem dX7_row_361 : decode cX7_row 361 = .ok (.iload 10, 2) := by decide +kernel
theorem dX7_row_363 : decode cX7_row 363 = .ok (.iload 12, 2) := by decide +kernel
theorem dX7_row_365 : decode cX7_row 365 = .ok (.iand, 1) := by decide +kernel
theorem dX7_row_366 : decode cX7_row 366 = .ok (.iload 11, 2) := by decide +kernel
theorem dX7_row_368 : decode cX7_row 368 = .ok (.iload 13, 2) := by decide +kernel
theorem dX7_row_370 : decode cX7_row 370 = .ok (.ixor, 1) := by decide +kernel
theorem dX7_row_371 : decode cX7_row 371 = .ok (.iand, 1) := by decide +kernel
theorem dX7_row_372 : decode cX7_row 372 = .ok (.ixor, 1) := by decide +kernel
theorem dX7_row_373 : decode cX7_row 373 = .ok (.istore 5, 2) := by decide +kernel
theorem dX7_row_375 : decode cX7_row 375 = .ok (.iload 4, 2) := by decide +kernel
theorem dX7_row_377 : decode cX7_row 377 = .ok (.iload 12, 2) := by decide +kernel
theorem dX7_row_379 : decode cX7_row 379 = .ok (.iload 8, 2) := by decide +kernel
theorem dX7_row_381 : decode cX7_row 381 = .ok (.ishl, 1) := by decide +kernel
theorem dX7_row_382 : decode cX7_row 382 = .ok (.ixor, 1) := by decide +kernel
theorem dX7_row_383 : decode cX7_row 383 = .ok (.istore 4, 2) := by decide +kernel
theorem dX7_row_385 : decode cX7_row 385 = .ok (.iload 4, 2) := by decide +kernel
theorem dX7_row_387 : decode cX7_row 387 = .ok (.iload 10, 2) := by decide +kernel
theorem dX7_row_389 : decode cX7_row 389 = .ok (.iload 9, 2) := by decide +kernel
theorem dX7_row_391 : decode cX7_row 391 = .ok (.ishl, 1) := by decide +kernel
theorem dX7_row_392 : decode cX7_row 392 = .ok (.ixor, 1) := by decide +kernel
theorem dX7_row_393 : decode cX7_row 393 = .ok (.istore 4, 2) := by decide +kernel
theorem dX7_row_395 : decode cX7_row 395 = .ok (.goto 45, 3) := by decide +kernel
theorem dX7_row_398 : decode cX7_row 398 = .ok (.iload_n 3, 1) := by decide +kernel
theorem dX7_row_399 : decode cX7_row 399 = .ok (.iload 10, 2) := by decide +kernel
theorem dX7_row_401 : decode cX7_row 401 = .ok (.iload 12, 2) := by decide +kernel
theorem dX7_row_403 : decode cX7_row 403 = .ok (.ixor, 1) := by decide +kernel
theorem dX7_row_404 : decode cX7_row 404 = .ok (.iload 8, 2) := by decide +kernel
theorem dX7_row_406 : decode cX7_row 406 = .ok (.ishl, 1) := by decide +kernel
theorem dX7_row_407 : decode cX7_row 407 = .ok (.iload 10, 2) := by decide +kernel
theorem dX7_row_409 : decode cX7_row 409 = .ok (.iload 12, 2) := by decide +kernel
theorem dX7_row_411 : decode cX7_row 411 = .ok (.ixor, 1) := by decide +kernel
theorem dX7_row_412 : decode cX7_row 412 = .ok (.iload 9, 2) := by decide +kernel
theorem dX7_row_414 : decode cX7_row 414 = .ok (.ishl, 1) := by decide +kernel
theorem dX7_row_415 : decode cX7_row 415 = .ok (.ixor, 1) := by decide +kernel
theorem dX7_row_416 : decode cX7_row 416 = .ok (.ixor, 1) := by decide +kernel
theorem dX7_row_417 : decode cX7_row 417 = .ok (.istore_n 3, 1) := by decide +kernel
theorem dX7_row_418 : decode cX7_row 418 = .ok (.iload 4, 2) := by decide +kernel
theorem dX7_row_420 : decode cX7_row 420 = .ok (.iload 11, 2) := by decide +kernel
theorem dX7_row_422 : decode cX7_row 422 = .ok (.iload 13, 2) := by decide +kernel
theorem dX7_row_424 : decode cX7_row 424 = .ok (.ixor, 1) := by decide +kernel
theorem dX7_row_425 : decode cX7_row 425 = .ok (.iload 8, 2) := by decide +kernel
theorem dX7_row_427 : decode cX7_row 427 = .ok (.ishl, 1) := by decide +kernel
theorem dX7_row_428 : decode cX7_row 428 = .ok (.iload 11, 2) := by decide +kernel
theorem dX7_row_430 : decode cX7_row 430 = .ok (.iload 13, 2) := by decide +kernel
theorem dX7_row_432 : decode cX7_row 432 = .ok (.ixor, 1) := by decide +kernel
theorem dX7_row_433 : decode cX7_row 433 = .ok (.iload 9, 2) := by decide +kernel
theorem dX7_row_435 : decode cX7_row 435 = .ok (.ishl, 1) := by decide +kernel
theorem dX7_row_436 : decode cX7_row 436 = .ok (.ixor, 1) := by decide +kernel
theorem dX7_row_437 : decode cX7_row 437 = .ok (.ixor, 1) := by decide +kernel
theorem dX7_row_438 : decode cX7_row 438 = .ok (.istore 4, 2) := by decide +kernel
theorem dX7_row_440 : decode cX7_row 440 = .ok (.iinc 6 1, 3) := by decide +kernel
theorem dX7_row_443 : decode cX7_row 443 = .ok (.goto (-337), 3) := by decide +kernel
theorem dX7_row_446 : decode cX7_row 446 = .ok (.iconst 0, 1) := by decide +kernel
theorem dX7_row_447 : decode cX7_row 447 = .ok (.istore 6, 2) := by decide +kernel
theorem dX7_row_449 : decode cX7_row 449 = .ok (.aload_n 0, 1) := by decide +kernel
theorem dX7_row_450 : decode cX7_row 450 = .ok (.getfield 7, 3) := by decide +kernel
theorem dX7_row_453 : decode cX7_row 453 = .ok (.iconst 1, 1) := by decide +kernel
theorem dX7_row_454 : decode cX7_row 454 = .ok (.isub, 1) := by decide +kernel
theorem dX7_row_455 : decode cX7_row 455 = .ok (.istore 7, 2) := by decide +kernel
theorem dX7_row_457 : decode cX7_row 457 = .ok (.iload 7, 2) := by decide +kernel
theorem dX7_row_459 : decode cX7_row 459 = .ok (.ifCond .lt 49, 3) := by decide +kernel
theorem dX7_row_462 : decode cX7_row 462 = .ok (.iload_n 3, 1) := by decide +kernel
theorem dX7_row_463 : decode cX7_row 463 = .ok (.iload 7, 2) := by decide +kernel
theorem dX7_row_465 : decode cX7_row 465 = .ok (.ishr, 1) := by decide +kernel
theorem dX7_row_466 : decode cX7_row 466 = .ok (.iconst 1, 1) := by decide +kernel
theorem dX7_row_467 : decode cX7_row 467 = .ok (.iand, 1) := by decide +kernel
theorem dX7_row_468 : decode cX7_row 468 = .ok (.istore 8, 2) := by decide +kernel
theorem dX7_row_470 : decode cX7_row 470 = .ok (.iload 4, 2) := by decide +kernel
theorem dX7_row_472 : decode cX7_row 472 = .ok (.iload 7, 2) := by decide +kernel
theorem dX7_row_474 : decode cX7_row 474 = .ok (.ishr, 1) := by decide +kernel
theorem dX7_row_475 : decode cX7_row 475 = .ok (.iconst 1, 1) := by decide +kernel
theorem dX7_row_476 : decode cX7_row 476 = .ok (.iand, 1) := by decide +kernel
theorem dX7_row_477 : decode cX7_row 477 = .ok (.istore 9, 2) := by decide +kernel
theorem dX7_row_479 : decode cX7_row 479 = .ok (.iconst 4, 1) := by decide +kernel
theorem dX7_row_480 : decode cX7_row 480 = .ok (.iload 6, 2) := by decide +kernel
theorem dX7_row_482 : decode cX7_row 482 = .ok (.imul, 1) := by decide +kernel
theorem dX7_row_483 : decode cX7_row 483 = .ok (.iload 8, 2) := by decide +kernel
theorem dX7_row_485 : decode cX7_row 485 = .ok (.ifCond .ne 10, 3) := by decide +kernel
theorem dX7_row_488 : decode cX7_row 488 = .ok (.iconst 3, 1) := by decide +kernel
theorem dX7_row_489 : decode cX7_row 489 = .ok (.iload 9, 2) := by decide +kernel
theorem dX7_row_491 : decode cX7_row 491 = .ok (.imul, 1) := by decide +kernel
theorem dX7_row_492 : decode cX7_row 492 = .ok (.goto 7, 3) := by decide +kernel
theorem dX7_row_495 : decode cX7_row 495 = .ok (.iconst 1, 1) := by decide +kernel
theorem dX7_row_496 : decode cX7_row 496 = .ok (.iload 9, 2) := by decide +kernel
theorem dX7_row_498 : decode cX7_row 498 = .ok (.iadd, 1) := by decide +kernel
theorem dX7_row_499 : decode cX7_row 499 = .ok (.iadd, 1) := by decide +kernel
theorem dX7_row_500 : decode cX7_row 500 = .ok (.istore 6, 2) := by decide +kernel
theorem dX7_row_502 : decode cX7_row 502 = .ok (.iinc 7 (-1), 3) := by decide +kernel
theorem dX7_row_505 : decode cX7_row 505 = .ok (.goto (-48), 3) := by decide +kernel
theorem dX7_row_508 : decode cX7_row 508 = .ok (.iload 6, 2) := by decide +kernel
theorem dX7_row_510 : decode cX7_row 510 = .ok (.sipush 256, 3) := by decide +kernel
theorem dX7_row_513 : decode cX7_row 513 = .ok (.iload 5, 2) := by decide +kernel
theorem dX7_row_515 : decode cX7_row 515 = .ok (.imul, 1) := by decide +kernel
theorem dX7_row_516 : decode cX7_row 516 = .ok (.iadd, 1) := by decide +kernel
theorem dX7_row_517 : decode cX7_row 517 = .ok (.ireturn, 1) := by decide +kernel
theorem dX7_type_0 : decode cX7_type 0 = .ok (.aload_n 0, 1) := by decide +kernel
theorem dX7_type_1 : decode cX7_type 1 = .ok (.iconst 0, 1) := by decide +kernel
theorem dX7_type_2 : decode cX7_type 2 = .ok (.putfield 60, 3) := by decide +kernel
theorem dX7_type_5 : decode cX7_type 5 = .ok (.iload_n 3, 1) := by decide +kernel
theorem dX7_type_6 : decode cX7_type 6 = .ok (.i2l, 1) := by decide +kernel
theorem dX7_type_7 : decode cX7_type 7 = .ok (.lconst 1, 1) := by decide +kernel
theorem dX7_type_8 : decode cX7_type 8 = .ok (.ldc2_w 267, 3) := by decide +kernel
theorem dX7_type_11 : decode cX7_type 11 = .ok (.invokestatic 65, 3) := by decide +kernel
theorem dX7_type_14 : decode cX7_type 14 = .ok (.ifCond .eq 15, 3) := by decide +kernel
theorem dX7_type_17 : decode cX7_type 17 = .ok (.aload_n 0, 1) := by decide +kernel
theorem dX7_type_18 : decode cX7_type 18 = .ok (.getfield 75, 3) := by decide +kernel
theorem dX7_type_21 : decode cX7_type 21 = .ok (.iload_n 3, 1) := by decide +kernel
theorem dX7_type_22 : decode cX7_type 22 = .ok (.iadd, 1) := by decide +kernel
theorem dX7_type_23 : decode cX7_type 23 = .ok (.sipush 320, 3) := by decide +kernel
theorem dX7_type_26 : decode cX7_type 26 = .ok (.if_icmp .le 5, 3) := by decide +kernel
theorem dX7_type_29 : decode cX7_type 29 = .ok (.iconst (-1), 1) := by decide +kernel
theorem dX7_type_30 : decode cX7_type 30 = .ok (.ireturn, 1) := by decide +kernel
theorem dX7_type_31 : decode cX7_type 31 = .ok (.iconst 0, 1) := by decide +kernel
theorem dX7_type_32 : decode cX7_type 32 = .ok (.istore 4, 2) := by decide +kernel
theorem dX7_type_34 : decode cX7_type 34 = .ok (.iload 4, 2) := by decide +kernel
theorem dX7_type_36 : decode cX7_type 36 = .ok (.iload_n 3, 1) := by decide +kernel
theorem dX7_type_37 : decode cX7_type 37 = .ok (.if_icmp .ge 34, 3) := by decide +kernel
theorem dX7_type_40 : decode cX7_type 40 = .ok (.lload_n 1, 1) := by decide +kernel
theorem dX7_type_41 : decode cX7_type 41 = .ok (.bipush 8, 2) := by decide +kernel
theorem dX7_type_43 : decode cX7_type 43 = .ok (.iload 4, 2) := by decide +kernel
theorem dX7_type_45 : decode cX7_type 45 = .ok (.imul, 1) := by decide +kernel
theorem dX7_type_46 : decode cX7_type 46 = .ok (.lshr, 1) := by decide +kernel
theorem dX7_type_47 : decode cX7_type 47 = .ok (.ldc2_w 269, 3) := by decide +kernel
theorem dX7_type_50 : decode cX7_type 50 = .ok (.land, 1) := by decide +kernel
theorem dX7_type_51 : decode cX7_type 51 = .ok (.ldc2_w 271, 3) := by decide +kernel
theorem dX7_type_54 : decode cX7_type 54 = .ok (.ldc2_w 273, 3) := by decide +kernel
theorem dX7_type_57 : decode cX7_type 57 = .ok (.invokestatic 65, 3) := by decide +kernel
theorem dX7_type_60 : decode cX7_type 60 = .ok (.ifCond .ne 5, 3) := by decide +kernel
theorem dX7_type_63 : decode cX7_type 63 = .ok (.iconst (-1), 1) := by decide +kernel
theorem dX7_type_64 : decode cX7_type 64 = .ok (.ireturn, 1) := by decide +kernel
theorem dX7_type_65 : decode cX7_type 65 = .ok (.iinc 4 1, 3) := by decide +kernel
theorem dX7_type_68 : decode cX7_type 68 = .ok (.goto (-34), 3) := by decide +kernel
theorem dX7_type_71 : decode cX7_type 71 = .ok (.iload_n 3, 1) := by decide +kernel
theorem dX7_type_72 : decode cX7_type 72 = .ok (.iconst 1, 1) := by decide +kernel
theorem dX7_type_73 : decode cX7_type 73 = .ok (.isub, 1) := by decide +kernel
theorem dX7_type_74 : decode cX7_type 74 = .ok (.istore 4, 2) := by decide +kernel
theorem dX7_type_76 : decode cX7_type 76 = .ok (.iload 4, 2) := by decide +kernel
theorem dX7_type_78 : decode cX7_type 78 = .ok (.ifCond .lt 40, 3) := by decide +kernel
theorem dX7_type_81 : decode cX7_type 81 = .ok (.aload_n 0, 1) := by decide +kernel
theorem dX7_type_82 : decode cX7_type 82 = .ok (.getfield 39, 3) := by decide +kernel
theorem dX7_type_85 : decode cX7_type 85 = .ok (.aload_n 0, 1) := by decide +kernel
theorem dX7_type_86 : decode cX7_type 86 = .ok (.getfield 75, 3) := by decide +kernel
theorem dX7_type_89 : decode cX7_type 89 = .ok (.lload_n 1, 1) := by decide +kernel
theorem dX7_type_90 : decode cX7_type 90 = .ok (.bipush 8, 2) := by decide +kernel
theorem dX7_type_92 : decode cX7_type 92 = .ok (.iload 4, 2) := by decide +kernel
theorem dX7_type_94 : decode cX7_type 94 = .ok (.imul, 1) := by decide +kernel
theorem dX7_type_95 : decode cX7_type 95 = .ok (.lshr, 1) := by decide +kernel
theorem dX7_type_96 : decode cX7_type 96 = .ok (.ldc2_w 269, 3) := by decide +kernel
theorem dX7_type_99 : decode cX7_type 99 = .ok (.land, 1) := by decide +kernel
theorem dX7_type_100 : decode cX7_type 100 = .ok (.l2i, 1) := by decide +kernel
theorem dX7_type_101 : decode cX7_type 101 = .ok (.iastore, 1) := by decide +kernel
theorem dX7_type_102 : decode cX7_type 102 = .ok (.aload_n 0, 1) := by decide +kernel
theorem dX7_type_103 : decode cX7_type 103 = .ok (.dup, 1) := by decide +kernel
theorem dX7_type_104 : decode cX7_type 104 = .ok (.getfield 75, 3) := by decide +kernel
theorem dX7_type_107 : decode cX7_type 107 = .ok (.iconst 1, 1) := by decide +kernel
theorem dX7_type_108 : decode cX7_type 108 = .ok (.iadd, 1) := by decide +kernel
theorem dX7_type_109 : decode cX7_type 109 = .ok (.putfield 75, 3) := by decide +kernel
theorem dX7_type_112 : decode cX7_type 112 = .ok (.iinc 4 (-1), 3) := by decide +kernel
theorem dX7_type_115 : decode cX7_type 115 = .ok (.goto (-39), 3) := by decide +kernel
theorem dX7_type_118 : decode cX7_type 118 = .ok (.aload_n 0, 1) := by decide +kernel
theorem dX7_type_119 : decode cX7_type 119 = .ok (.getfield 75, 3) := by decide +kernel
theorem dX7_type_122 : decode cX7_type 122 = .ok (.ireturn, 1) := by decide +kernel
theorem dX7_letterOf_0 : decode cX7_letterOf 0 = .ok (.iload_n 0, 1) := by decide +kernel
theorem dX7_letterOf_1 : decode cX7_letterOf 1 = .ok (.tableswitch 71 1 8 #[47, 50, 53, 56, 59, 62, 65, 68], 47) := by decide +kernel
theorem dX7_letterOf_48 : decode cX7_letterOf 48 = .ok (.bipush 104, 2) := by decide +kernel
theorem dX7_letterOf_50 : decode cX7_letterOf 50 = .ok (.ireturn, 1) := by decide +kernel
theorem dX7_letterOf_51 : decode cX7_letterOf 51 = .ok (.bipush 115, 2) := by decide +kernel
theorem dX7_letterOf_53 : decode cX7_letterOf 53 = .ok (.ireturn, 1) := by decide +kernel
theorem dX7_letterOf_54 : decode cX7_letterOf 54 = .ok (.bipush 116, 2) := by decide +kernel
theorem dX7_letterOf_56 : decode cX7_letterOf 56 = .ok (.ireturn, 1) := by decide +kernel
theorem dX7_letterOf_57 : decode cX7_letterOf 57 = .ok (.bipush 120, 2) := by decide +kernel
theorem dX7_letterOf_59 : decode cX7_letterOf 59 = .ok (.ireturn, 1) := by decide +kernel
theorem dX7_letterOf_60 : decode cX7_letterOf 60 = .ok (.bipush 122, 2) := by decide +kernel
theorem dX7_letterOf_62 : decode cX7_letterOf 62 = .ok (.ireturn, 1) := by decide +kernel
theorem dX7_letterOf_63 : decode cX7_letterOf 63 = .ok (.bipush 99, 2) := by decide +kernel
theorem dX7_letterOf_65 : decode cX7_letterOf 65 = .ok (.ireturn, 1) := by decide +kernel
theorem dX7_letterOf_66 : decode cX7_letterOf 66 = .ok (.bipush 100, 2) := by decide +kernel
theorem dX7_letterOf_68 : decode cX7_letterOf 68 = .ok (.ireturn, 1) := by decide +kernel
theorem dX7_letterOf_69 : decode cX7_letterOf 69 = .ok (.bipush 119, 2) := by decide +kernel
theorem dX7_letterOf_71 : decode cX7_letterOf 71 = .ok (.ireturn, 1) := by decide +kernel
theorem dX7_letterOf_72 : decode cX7_letterOf 72 = .ok (.bipush 111, 2) := by decide +kernel
theorem dX7_letterOf_74 : decode cX7_letterOf 74 = .ok (.ireturn, 1) := by decide +kernel
theorem dX7_say_0 : decode cX7_say 0 = .ok (.aload_n 0, 1) := by decide +kernel
theorem dX7_say_1 : decode cX7_say 1 = .ok (.getfield 39, 3) := by decide +kernel
theorem dX7_say_4 : decode cX7_say 4 = .ok (.aload_n 0, 1) := by decide +kernel
theorem dX7_say_5 : decode cX7_say 5 = .ok (.getfield 75, 3) := by decide +kernel
theorem dX7_say_8 : decode cX7_say 8 = .ok (.iload_n 1, 1) := by decide +kernel
theorem dX7_say_9 : decode cX7_say 9 = .ok (.iastore, 1) := by decide +kernel
theorem dX7_say_10 : decode cX7_say 10 = .ok (.aload_n 0, 1) := by decide +kernel
theorem dX7_say_11 : decode cX7_say 11 = .ok (.dup, 1) := by decide +kernel
theorem dX7_say_12 : decode cX7_say 12 = .ok (.getfield 75, 3) := by decide +kernel
theorem dX7_say_15 : decode cX7_say 15 = .ok (.iconst 1, 1) := by decide +kernel
theorem dX7_say_16 : decode cX7_say 16 = .ok (.iadd, 1) := by decide +kernel
theorem dX7_say_17 : decode cX7_say 17 = .ok (.putfield 75, 3) := by decide +kernel
theorem dX7_say_20 : decode cX7_say 20 = .ok (.return_, 1) := by decide +kernel
theorem dX7_print_0 : decode cX7_print 0 = .ok (.aload_n 0, 1) := by decide +kernel
theorem dX7_print_1 : decode cX7_print 1 = .ok (.iload_n 1, 1) := by decide +kernel
theorem dX7_print_2 : decode cX7_print 2 = .ok (.invokestatic 88, 3) := by decide +kernel
theorem dX7_print_5 : decode cX7_print 5 = .ok (.ifCond .eq 7, 3) := by decide +kernel
theorem dX7_print_8 : decode cX7_print 8 = .ok (.iconst 0, 1) := by decide +kernel
theorem dX7_print_9 : decode cX7_print 9 = .ok (.goto 4, 3) := by decide +kernel
theorem dX7_print_12 : decode cX7_print 12 = .ok (.iconst 1, 1) := by decide +kernel
theorem dX7_print_13 : decode cX7_print 13 = .ok (.putfield 60, 3) := by decide +kernel
theorem dX7_print_16 : decode cX7_print 16 = .ok (.aload_n 0, 1) := by decide +kernel
theorem dX7_print_17 : decode cX7_print 17 = .ok (.getfield 60, 3) := by decide +kernel
theorem dX7_print_20 : decode cX7_print 20 = .ok (.ifCond .le 5, 3) := by decide +kernel
theorem dX7_print_23 : decode cX7_print 23 = .ok (.iconst 0, 1) := by decide +kernel
theorem dX7_print_24 : decode cX7_print 24 = .ok (.ireturn, 1) := by decide +kernel
theorem dX7_print_25 : decode cX7_print 25 = .ok (.aload_n 0, 1) := by decide +kernel
theorem dX7_print_26 : decode cX7_print 26 = .ok (.iconst 0, 1) := by decide +kernel
theorem dX7_print_27 : decode cX7_print 27 = .ok (.putfield 75, 3) := by decide +kernel
theorem dX7_print_30 : decode cX7_print 30 = .ok (.iconst 0, 1) := by decide +kernel
theorem dX7_print_31 : decode cX7_print 31 = .ok (.istore_n 2, 1) := by decide +kernel
theorem dX7_print_32 : decode cX7_print 32 = .ok (.iload_n 2, 1) := by decide +kernel
theorem dX7_print_33 : decode cX7_print 33 = .ok (.aload_n 0, 1) := by decide +kernel
theorem dX7_print_34 : decode cX7_print 34 = .ok (.getfield 13, 3) := by decide +kernel
theorem dX7_print_37 : decode cX7_print 37 = .ok (.iload_n 1, 1) := by decide +kernel
theorem dX7_print_38 : decode cX7_print 38 = .ok (.iaload, 1) := by decide +kernel
theorem dX7_print_39 : decode cX7_print 39 = .ok (.if_icmp .ge 96, 3) := by decide +kernel
theorem dX7_print_42 : decode cX7_print 42 = .ok (.bipush 64, 2) := by decide +kernel
theorem dX7_print_44 : decode cX7_print 44 = .ok (.iload_n 1, 1) := by decide +kernel
theorem dX7_print_45 : decode cX7_print 45 = .ok (.imul, 1) := by decide +kernel
theorem dX7_print_46 : decode cX7_print 46 = .ok (.iload_n 2, 1) := by decide +kernel
theorem dX7_print_47 : decode cX7_print 47 = .ok (.iadd, 1) := by decide +kernel
theorem dX7_print_48 : decode cX7_print 48 = .ok (.istore_n 3, 1) := by decide +kernel
theorem dX7_print_49 : decode cX7_print 49 = .ok (.iload_n 2, 1) := by decide +kernel
theorem dX7_print_50 : decode cX7_print 50 = .ok (.ifCond .le 9, 3) := by decide +kernel
theorem dX7_print_53 : decode cX7_print 53 = .ok (.aload_n 0, 1) := by decide +kernel
theorem dX7_print_54 : decode cX7_print 54 = .ok (.bipush 32, 2) := by decide +kernel
theorem dX7_print_56 : decode cX7_print 56 = .ok (.invokevirtual 275, 3) := by decide +kernel
theorem dX7_print_59 : decode cX7_print 59 = .ok (.aload_n 0, 1) := by decide +kernel
theorem dX7_print_60 : decode cX7_print 60 = .ok (.aload_n 0, 1) := by decide +kernel
theorem dX7_print_61 : decode cX7_print 61 = .ok (.getfield 17, 3) := by decide +kernel
theorem dX7_print_64 : decode cX7_print 64 = .ok (.iload_n 3, 1) := by decide +kernel
theorem dX7_print_65 : decode cX7_print 65 = .ok (.iaload, 1) := by decide +kernel
theorem dX7_print_66 : decode cX7_print 66 = .ok (.invokestatic 278, 3) := by decide +kernel
theorem dX7_print_69 : decode cX7_print 69 = .ok (.invokevirtual 275, 3) := by decide +kernel
theorem dX7_print_72 : decode cX7_print 72 = .ok (.aload_n 0, 1) := by decide +kernel
theorem dX7_print_73 : decode cX7_print 73 = .ok (.bipush 48, 2) := by decide +kernel
theorem dX7_print_75 : decode cX7_print 75 = .ok (.aload_n 0, 1) := by decide +kernel
theorem dX7_print_76 : decode cX7_print 76 = .ok (.getfield 20, 3) := by decide +kernel
theorem dX7_print_79 : decode cX7_print 79 = .ok (.iload_n 3, 1) := by decide +kernel
theorem dX7_print_80 : decode cX7_print 80 = .ok (.iaload, 1) := by decide +kernel
theorem dX7_print_81 : decode cX7_print 81 = .ok (.iadd, 1) := by decide +kernel
theorem dX7_print_82 : decode cX7_print 82 = .ok (.invokevirtual 275, 3) := by decide +kernel
theorem dX7_print_85 : decode cX7_print 85 = .ok (.aload_n 0, 1) := by decide +kernel
theorem dX7_print_86 : decode cX7_print 86 = .ok (.getfield 23, 3) := by decide +kernel
theorem dX7_print_89 : decode cX7_print 89 = .ok (.iload_n 3, 1) := by decide +kernel
theorem dX7_print_90 : decode cX7_print 90 = .ok (.iaload, 1) := by decide +kernel
theorem dX7_print_91 : decode cX7_print 91 = .ok (.ifCond .lt 16, 3) := by decide +kernel
theorem dX7_print_94 : decode cX7_print 94 = .ok (.aload_n 0, 1) := by decide +kernel
theorem dX7_print_95 : decode cX7_print 95 = .ok (.bipush 48, 2) := by decide +kernel
theorem dX7_print_97 : decode cX7_print 97 = .ok (.aload_n 0, 1) := by decide +kernel
theorem dX7_print_98 : decode cX7_print 98 = .ok (.getfield 23, 3) := by decide +kernel
theorem dX7_print_101 : decode cX7_print 101 = .ok (.iload_n 3, 1) := by decide +kernel
theorem dX7_print_102 : decode cX7_print 102 = .ok (.iaload, 1) := by decide +kernel
theorem dX7_print_103 : decode cX7_print 103 = .ok (.iadd, 1) := by decide +kernel
theorem dX7_print_104 : decode cX7_print 104 = .ok (.invokevirtual 275, 3) := by decide +kernel
theorem dX7_print_107 : decode cX7_print 107 = .ok (.aload_n 0, 1) := by decide +kernel
theorem dX7_print_108 : decode cX7_print 108 = .ok (.getfield 26, 3) := by decide +kernel
theorem dX7_print_111 : decode cX7_print 111 = .ok (.iload_n 3, 1) := by decide +kernel
theorem dX7_print_112 : decode cX7_print 112 = .ok (.iaload, 1) := by decide +kernel
theorem dX7_print_113 : decode cX7_print 113 = .ok (.ifCond .lt 16, 3) := by decide +kernel
theorem dX7_print_116 : decode cX7_print 116 = .ok (.aload_n 0, 1) := by decide +kernel
theorem dX7_print_117 : decode cX7_print 117 = .ok (.bipush 48, 2) := by decide +kernel
theorem dX7_print_119 : decode cX7_print 119 = .ok (.aload_n 0, 1) := by decide +kernel
theorem dX7_print_120 : decode cX7_print 120 = .ok (.getfield 26, 3) := by decide +kernel
theorem dX7_print_123 : decode cX7_print 123 = .ok (.iload_n 3, 1) := by decide +kernel
theorem dX7_print_124 : decode cX7_print 124 = .ok (.iaload, 1) := by decide +kernel
theorem dX7_print_125 : decode cX7_print 125 = .ok (.iadd, 1) := by decide +kernel
theorem dX7_print_126 : decode cX7_print 126 = .ok (.invokevirtual 275, 3) := by decide +kernel
theorem dX7_print_129 : decode cX7_print 129 = .ok (.iinc 2 1, 3) := by decide +kernel
theorem dX7_print_132 : decode cX7_print 132 = .ok (.goto (-100), 3) := by decide +kernel
theorem dX7_print_135 : decode cX7_print 135 = .ok (.aload_n 0, 1) := by decide +kernel
theorem dX7_print_136 : decode cX7_print 136 = .ok (.getfield 75, 3) := by decide +kernel
theorem dX7_print_139 : decode cX7_print 139 = .ok (.ireturn, 1) := by decide +kernel
theorem dX7_character_0 : decode cX7_character 0 = .ok (.aload_n 0, 1) := by decide +kernel
theorem dX7_character_1 : decode cX7_character 1 = .ok (.iconst 0, 1) := by decide +kernel
theorem dX7_character_2 : decode cX7_character 2 = .ok (.putfield 60, 3) := by decide +kernel
theorem dX7_character_5 : decode cX7_character 5 = .ok (.iload_n 1, 1) := by decide +kernel
theorem dX7_character_6 : decode cX7_character 6 = .ok (.i2l, 1) := by decide +kernel
theorem dX7_character_7 : decode cX7_character 7 = .ok (.lconst 0, 1) := by decide +kernel
theorem dX7_character_8 : decode cX7_character 8 = .ok (.aload_n 0, 1) := by decide +kernel
theorem dX7_character_9 : decode cX7_character 9 = .ok (.getfield 75, 3) := by decide +kernel
theorem dX7_character_12 : decode cX7_character 12 = .ok (.i2l, 1) := by decide +kernel
theorem dX7_character_13 : decode cX7_character 13 = .ok (.lconst 1, 1) := by decide +kernel
theorem dX7_character_14 : decode cX7_character 14 = .ok (.lsub, 1) := by decide +kernel
theorem dX7_character_15 : decode cX7_character 15 = .ok (.invokestatic 65, 3) := by decide +kernel
theorem dX7_character_18 : decode cX7_character 18 = .ok (.ifCond .eq 12, 3) := by decide +kernel
theorem dX7_character_21 : decode cX7_character 21 = .ok (.aload_n 0, 1) := by decide +kernel
theorem dX7_character_22 : decode cX7_character 22 = .ok (.getfield 39, 3) := by decide +kernel
theorem dX7_character_25 : decode cX7_character 25 = .ok (.iload_n 1, 1) := by decide +kernel
theorem dX7_character_26 : decode cX7_character 26 = .ok (.iaload, 1) := by decide +kernel
theorem dX7_character_27 : decode cX7_character 27 = .ok (.goto 4, 3) := by decide +kernel
theorem dX7_character_30 : decode cX7_character 30 = .ok (.iconst (-1), 1) := by decide +kernel
theorem dX7_character_31 : decode cX7_character 31 = .ok (.ireturn, 1) := by decide +kernel
theorem dX7_kindAt_0 : decode cX7_kindAt 0 = .ok (.iconst 1, 1) := by decide +kernel
theorem dX7_kindAt_1 : decode cX7_kindAt 1 = .ok (.istore_n 2, 1) := by decide +kernel
theorem dX7_kindAt_2 : decode cX7_kindAt 2 = .ok (.iload_n 2, 1) := by decide +kernel
theorem dX7_kindAt_3 : decode cX7_kindAt 3 = .ok (.bipush 9, 2) := by decide +kernel
theorem dX7_kindAt_5 : decode cX7_kindAt 5 = .ok (.if_icmp .gt 32, 3) := by decide +kernel
theorem dX7_kindAt_8 : decode cX7_kindAt 8 = .ok (.iload_n 1, 1) := by decide +kernel
theorem dX7_kindAt_9 : decode cX7_kindAt 9 = .ok (.aload_n 0, 1) := by decide +kernel
theorem dX7_kindAt_10 : decode cX7_kindAt 10 = .ok (.getfield 75, 3) := by decide +kernel
theorem dX7_kindAt_13 : decode cX7_kindAt 13 = .ok (.if_icmp .ge 18, 3) := by decide +kernel
theorem dX7_kindAt_16 : decode cX7_kindAt 16 = .ok (.aload_n 0, 1) := by decide +kernel
theorem dX7_kindAt_17 : decode cX7_kindAt 17 = .ok (.getfield 39, 3) := by decide +kernel
theorem dX7_kindAt_20 : decode cX7_kindAt 20 = .ok (.iload_n 1, 1) := by decide +kernel
theorem dX7_kindAt_21 : decode cX7_kindAt 21 = .ok (.iaload, 1) := by decide +kernel
theorem dX7_kindAt_22 : decode cX7_kindAt 22 = .ok (.iload_n 2, 1) := by decide +kernel
theorem dX7_kindAt_23 : decode cX7_kindAt 23 = .ok (.invokestatic 278, 3) := by decide +kernel
theorem dX7_kindAt_26 : decode cX7_kindAt 26 = .ok (.if_icmp .ne 5, 3) := by decide +kernel
theorem dX7_kindAt_29 : decode cX7_kindAt 29 = .ok (.iload_n 2, 1) := by decide +kernel
theorem dX7_kindAt_30 : decode cX7_kindAt 30 = .ok (.ireturn, 1) := by decide +kernel
theorem dX7_kindAt_31 : decode cX7_kindAt 31 = .ok (.iinc 2 1, 3) := by decide +kernel
theorem dX7_kindAt_34 : decode cX7_kindAt 34 = .ok (.goto (-32), 3) := by decide +kernel
theorem dX7_kindAt_37 : decode cX7_kindAt 37 = .ok (.iconst 0, 1) := by decide +kernel
theorem dX7_kindAt_38 : decode cX7_kindAt 38 = .ok (.ireturn, 1) := by decide +kernel
theorem dX7_wireAt_0 : decode cX7_wireAt 0 = .ok (.iload_n 1, 1) := by decide +kernel
theorem dX7_wireAt_1 : decode cX7_wireAt 1 = .ok (.aload_n 0, 1) := by decide +kernel
theorem dX7_wireAt_2 : decode cX7_wireAt 2 = .ok (.getfield 75, 3) := by decide +kernel
theorem dX7_wireAt_5 : decode cX7_wireAt 5 = .ok (.if_icmp .ge 15, 3) := by decide +kernel
theorem dX7_wireAt_8 : decode cX7_wireAt 8 = .ok (.aload_n 0, 1) := by decide +kernel
theorem dX7_wireAt_9 : decode cX7_wireAt 9 = .ok (.getfield 39, 3) := by decide +kernel
theorem dX7_wireAt_12 : decode cX7_wireAt 12 = .ok (.iload_n 1, 1) := by decide +kernel
theorem dX7_wireAt_13 : decode cX7_wireAt 13 = .ok (.iaload, 1) := by decide +kernel
theorem dX7_wireAt_14 : decode cX7_wireAt 14 = .ok (.bipush 48, 2) := by decide +kernel
theorem dX7_wireAt_16 : decode cX7_wireAt 16 = .ok (.isub, 1) := by decide +kernel
theorem dX7_wireAt_17 : decode cX7_wireAt 17 = .ok (.goto 4, 3) := by decide +kernel
theorem dX7_wireAt_20 : decode cX7_wireAt 20 = .ok (.iconst (-1), 1) := by decide +kernel
theorem dX7_wireAt_21 : decode cX7_wireAt 21 = .ok (.istore_n 2, 1) := by decide +kernel
theorem dX7_wireAt_22 : decode cX7_wireAt 22 = .ok (.aload_n 0, 1) := by decide +kernel
theorem dX7_wireAt_23 : decode cX7_wireAt 23 = .ok (.iload_n 2, 1) := by decide +kernel
theorem dX7_wireAt_24 : decode cX7_wireAt 24 = .ok (.invokevirtual 80, 3) := by decide +kernel
theorem dX7_wireAt_27 : decode cX7_wireAt 27 = .ok (.ifCond .eq 7, 3) := by decide +kernel
theorem dX7_wireAt_30 : decode cX7_wireAt 30 = .ok (.iload_n 2, 1) := by decide +kernel
theorem dX7_wireAt_31 : decode cX7_wireAt 31 = .ok (.goto 4, 3) := by decide +kernel
theorem dX7_wireAt_34 : decode cX7_wireAt 34 = .ok (.iconst (-1), 1) := by decide +kernel
theorem dX7_wireAt_35 : decode cX7_wireAt 35 = .ok (.ireturn, 1) := by decide +kernel
theorem dX7_readGate_0 : decode cX7_readGate 0 = .ok (.aload_n 0, 1) := by decide +kernel
theorem dX7_readGate_1 : decode cX7_readGate 1 = .ok (.getfield 13, 3) := by decide +kernel
theorem dX7_readGate_4 : decode cX7_readGate 4 = .ok (.iconst 3, 1) := by decide +kernel
theorem dX7_readGate_5 : decode cX7_readGate 5 = .ok (.iaload, 1) := by decide +kernel
theorem dX7_readGate_6 : decode cX7_readGate 6 = .ok (.bipush 64, 2) := by decide +kernel
theorem dX7_readGate_8 : decode cX7_readGate 8 = .ok (.if_icmp .ne 7, 3) := by decide +kernel
theorem dX7_readGate_11 : decode cX7_readGate 11 = .ok (.iconst 0, 1) := by decide +kernel
theorem dX7_readGate_12 : decode cX7_readGate 12 = .ok (.goto 8, 3) := by decide +kernel
theorem dX7_readGate_15 : decode cX7_readGate 15 = .ok (.aload_n 0, 1) := by decide +kernel
theorem dX7_readGate_16 : decode cX7_readGate 16 = .ok (.iload_n 1, 1) := by decide +kernel
theorem dX7_readGate_17 : decode cX7_readGate 17 = .ok (.invokevirtual 281, 3) := by decide +kernel
theorem dX7_readGate_20 : decode cX7_readGate 20 = .ok (.istore_n 2, 1) := by decide +kernel
theorem dX7_readGate_21 : decode cX7_readGate 21 = .ok (.iload_n 2, 1) := by decide +kernel
theorem dX7_readGate_22 : decode cX7_readGate 22 = .ok (.ifCond .ne 7, 3) := by decide +kernel
theorem dX7_readGate_25 : decode cX7_readGate 25 = .ok (.iconst (-1), 1) := by decide +kernel
theorem dX7_readGate_26 : decode cX7_readGate 26 = .ok (.iload_n 1, 1) := by decide +kernel
theorem dX7_readGate_27 : decode cX7_readGate 27 = .ok (.isub, 1) := by decide +kernel
theorem dX7_readGate_28 : decode cX7_readGate 28 = .ok (.ireturn, 1) := by decide +kernel
theorem dX7_readGate_29 : decode cX7_readGate 29 = .ok (.aload_n 0, 1) := by decide +kernel
theorem dX7_readGate_30 : decode cX7_readGate 30 = .ok (.iload_n 1, 1) := by decide +kernel
theorem dX7_readGate_31 : decode cX7_readGate 31 = .ok (.iconst 1, 1) := by decide +kernel
theorem dX7_readGate_32 : decode cX7_readGate 32 = .ok (.iadd, 1) := by decide +kernel
theorem dX7_readGate_33 : decode cX7_readGate 33 = .ok (.invokevirtual 284, 3) := by decide +kernel
theorem dX7_readGate_36 : decode cX7_readGate 36 = .ok (.istore_n 3, 1) := by decide +kernel
theorem dX7_readGate_37 : decode cX7_readGate 37 = .ok (.iload_n 3, 1) := by decide +kernel
theorem dX7_readGate_38 : decode cX7_readGate 38 = .ok (.ifCond .ge 8, 3) := by decide +kernel
theorem dX7_readGate_41 : decode cX7_readGate 41 = .ok (.bipush (-2), 2) := by decide +kernel
theorem dX7_readGate_43 : decode cX7_readGate 43 = .ok (.iload_n 1, 1) := by decide +kernel
theorem dX7_readGate_44 : decode cX7_readGate 44 = .ok (.isub, 1) := by decide +kernel
theorem dX7_readGate_45 : decode cX7_readGate 45 = .ok (.ireturn, 1) := by decide +kernel
theorem dX7_readGate_46 : decode cX7_readGate 46 = .ok (.iload_n 2, 1) := by decide +kernel
theorem dX7_readGate_47 : decode cX7_readGate 47 = .ok (.invokestatic 84, 3) := by decide +kernel
theorem dX7_readGate_50 : decode cX7_readGate 50 = .ok (.iconst 1, 1) := by decide +kernel
theorem dX7_readGate_51 : decode cX7_readGate 51 = .ok (.if_icmp .le 13, 3) := by decide +kernel
theorem dX7_readGate_54 : decode cX7_readGate 54 = .ok (.aload_n 0, 1) := by decide +kernel
theorem dX7_readGate_55 : decode cX7_readGate 55 = .ok (.iload_n 1, 1) := by decide +kernel
theorem dX7_readGate_56 : decode cX7_readGate 56 = .ok (.iconst 2, 1) := by decide +kernel
theorem dX7_readGate_57 : decode cX7_readGate 57 = .ok (.iadd, 1) := by decide +kernel
theorem dX7_readGate_58 : decode cX7_readGate 58 = .ok (.invokevirtual 284, 3) := by decide +kernel
theorem dX7_readGate_61 : decode cX7_readGate 61 = .ok (.goto 4, 3) := by decide +kernel
theorem dX7_readGate_64 : decode cX7_readGate 64 = .ok (.iconst (-1), 1) := by decide +kernel
theorem dX7_readGate_65 : decode cX7_readGate 65 = .ok (.istore 4, 2) := by decide +kernel
theorem dX7_readGate_67 : decode cX7_readGate 67 = .ok (.iload_n 2, 1) := by decide +kernel
theorem dX7_readGate_68 : decode cX7_readGate 68 = .ok (.invokestatic 84, 3) := by decide +kernel
theorem dX7_readGate_71 : decode cX7_readGate 71 = .ok (.iconst 1, 1) := by decide +kernel
theorem dX7_readGate_72 : decode cX7_readGate 72 = .ok (.if_icmp .le 19, 3) := by decide +kernel
theorem dX7_readGate_75 : decode cX7_readGate 75 = .ok (.iload 4, 2) := by decide +kernel
theorem dX7_readGate_77 : decode cX7_readGate 77 = .ok (.ifCond .lt 9, 3) := by decide +kernel
theorem dX7_readGate_80 : decode cX7_readGate 80 = .ok (.iload 4, 2) := by decide +kernel
theorem dX7_readGate_82 : decode cX7_readGate 82 = .ok (.iload_n 3, 1) := by decide +kernel
theorem dX7_readGate_83 : decode cX7_readGate 83 = .ok (.if_icmp .ne 8, 3) := by decide +kernel
theorem dX7_readGate_86 : decode cX7_readGate 86 = .ok (.bipush (-3), 2) := by decide +kernel
theorem dX7_readGate_88 : decode cX7_readGate 88 = .ok (.iload_n 1, 1) := by decide +kernel
theorem dX7_readGate_89 : decode cX7_readGate 89 = .ok (.isub, 1) := by decide +kernel
theorem dX7_readGate_90 : decode cX7_readGate 90 = .ok (.ireturn, 1) := by decide +kernel
theorem dX7_readGate_91 : decode cX7_readGate 91 = .ok (.iload_n 2, 1) := by decide +kernel
theorem dX7_readGate_92 : decode cX7_readGate 92 = .ok (.invokestatic 84, 3) := by decide +kernel
theorem dX7_readGate_95 : decode cX7_readGate 95 = .ok (.iconst 2, 1) := by decide +kernel
theorem dX7_readGate_96 : decode cX7_readGate 96 = .ok (.if_icmp .le 13, 3) := by decide +kernel
theorem dX7_readGate_99 : decode cX7_readGate 99 = .ok (.aload_n 0, 1) := by decide +kernel
theorem dX7_readGate_100 : decode cX7_readGate 100 = .ok (.iload_n 1, 1) := by decide +kernel
theorem dX7_readGate_101 : decode cX7_readGate 101 = .ok (.iconst 3, 1) := by decide +kernel
theorem dX7_readGate_102 : decode cX7_readGate 102 = .ok (.iadd, 1) := by decide +kernel
theorem dX7_readGate_103 : decode cX7_readGate 103 = .ok (.invokevirtual 284, 3) := by decide +kernel
theorem dX7_readGate_106 : decode cX7_readGate 106 = .ok (.goto 4, 3) := by decide +kernel
theorem dX7_readGate_109 : decode cX7_readGate 109 = .ok (.iconst (-1), 1) := by decide +kernel
theorem dX7_readGate_110 : decode cX7_readGate 110 = .ok (.istore 5, 2) := by decide +kernel
theorem dX7_readGate_112 : decode cX7_readGate 112 = .ok (.iload_n 2, 1) := by decide +kernel
theorem dX7_readGate_113 : decode cX7_readGate 113 = .ok (.invokestatic 84, 3) := by decide +kernel
theorem dX7_readGate_116 : decode cX7_readGate 116 = .ok (.iconst 2, 1) := by decide +kernel
theorem dX7_readGate_117 : decode cX7_readGate 117 = .ok (.if_icmp .le 26, 3) := by decide +kernel
theorem dX7_readGate_120 : decode cX7_readGate 120 = .ok (.iload 5, 2) := by decide +kernel
theorem dX7_readGate_122 : decode cX7_readGate 122 = .ok (.ifCond .lt 16, 3) := by decide +kernel
theorem dX7_readGate_125 : decode cX7_readGate 125 = .ok (.iload 5, 2) := by decide +kernel
theorem dX7_readGate_127 : decode cX7_readGate 127 = .ok (.iload_n 3, 1) := by decide +kernel
theorem dX7_readGate_128 : decode cX7_readGate 128 = .ok (.if_icmp .eq 10, 3) := by decide +kernel
theorem dX7_readGate_131 : decode cX7_readGate 131 = .ok (.iload 5, 2) := by decide +kernel
theorem dX7_readGate_133 : decode cX7_readGate 133 = .ok (.iload 4, 2) := by decide +kernel
theorem dX7_readGate_135 : decode cX7_readGate 135 = .ok (.if_icmp .ne 8, 3) := by decide +kernel
theorem dX7_readGate_138 : decode cX7_readGate 138 = .ok (.bipush (-4), 2) := by decide +kernel
theorem dX7_readGate_140 : decode cX7_readGate 140 = .ok (.iload_n 1, 1) := by decide +kernel
theorem dX7_readGate_141 : decode cX7_readGate 141 = .ok (.isub, 1) := by decide +kernel
theorem dX7_readGate_142 : decode cX7_readGate 142 = .ok (.ireturn, 1) := by decide +kernel
theorem dX7_readGate_143 : decode cX7_readGate 143 = .ok (.aload_n 0, 1) := by decide +kernel
theorem dX7_readGate_144 : decode cX7_readGate 144 = .ok (.iconst 3, 1) := by decide +kernel
theorem dX7_readGate_145 : decode cX7_readGate 145 = .ok (.iload_n 2, 1) := by decide +kernel
theorem dX7_readGate_146 : decode cX7_readGate 146 = .ok (.iload_n 3, 1) := by decide +kernel
theorem dX7_readGate_147 : decode cX7_readGate 147 = .ok (.iload 4, 2) := by decide +kernel
theorem dX7_readGate_149 : decode cX7_readGate 149 = .ok (.iload 5, 2) := by decide +kernel
theorem dX7_readGate_151 : decode cX7_readGate 151 = .ok (.invokevirtual 95, 3) := by decide +kernel
theorem dX7_readGate_154 : decode cX7_readGate 154 = .ok (.iload_n 1, 1) := by decide +kernel
theorem dX7_readGate_155 : decode cX7_readGate 155 = .ok (.iconst 1, 1) := by decide +kernel
theorem dX7_readGate_156 : decode cX7_readGate 156 = .ok (.iadd, 1) := by decide +kernel
theorem dX7_readGate_157 : decode cX7_readGate 157 = .ok (.iload_n 2, 1) := by decide +kernel
theorem dX7_readGate_158 : decode cX7_readGate 158 = .ok (.invokestatic 84, 3) := by decide +kernel
theorem dX7_readGate_161 : decode cX7_readGate 161 = .ok (.iadd, 1) := by decide +kernel
theorem dX7_readGate_162 : decode cX7_readGate 162 = .ok (.ireturn, 1) := by decide +kernel
theorem dX7_read_0 : decode cX7_read 0 = .ok (.aload_n 0, 1) := by decide +kernel
theorem dX7_read_1 : decode cX7_read 1 = .ok (.iload_n 1, 1) := by decide +kernel
theorem dX7_read_2 : decode cX7_read 2 = .ok (.invokestatic 88, 3) := by decide +kernel
theorem dX7_read_5 : decode cX7_read 5 = .ok (.ifCond .eq 7, 3) := by decide +kernel
theorem dX7_read_8 : decode cX7_read 8 = .ok (.iconst 0, 1) := by decide +kernel
theorem dX7_read_9 : decode cX7_read 9 = .ok (.goto 4, 3) := by decide +kernel
theorem dX7_read_12 : decode cX7_read 12 = .ok (.iconst 1, 1) := by decide +kernel
theorem dX7_read_13 : decode cX7_read 13 = .ok (.putfield 60, 3) := by decide +kernel
theorem dX7_read_16 : decode cX7_read 16 = .ok (.aload_n 0, 1) := by decide +kernel
theorem dX7_read_17 : decode cX7_read 17 = .ok (.getfield 60, 3) := by decide +kernel
theorem dX7_read_20 : decode cX7_read 20 = .ok (.ifCond .le 5, 3) := by decide +kernel
theorem dX7_read_23 : decode cX7_read 23 = .ok (.iconst 0, 1) := by decide +kernel
theorem dX7_read_24 : decode cX7_read 24 = .ok (.ireturn, 1) := by decide +kernel
theorem dX7_read_25 : decode cX7_read 25 = .ok (.aload_n 0, 1) := by decide +kernel
theorem dX7_read_26 : decode cX7_read 26 = .ok (.getfield 13, 3) := by decide +kernel
theorem dX7_read_29 : decode cX7_read 29 = .ok (.iconst 3, 1) := by decide +kernel
theorem dX7_read_30 : decode cX7_read 30 = .ok (.iconst 0, 1) := by decide +kernel
theorem dX7_read_31 : decode cX7_read 31 = .ok (.iastore, 1) := by decide +kernel
theorem dX7_read_32 : decode cX7_read 32 = .ok (.iconst 0, 1) := by decide +kernel
theorem dX7_read_33 : decode cX7_read 33 = .ok (.istore_n 2, 1) := by decide +kernel
theorem dX7_read_34 : decode cX7_read 34 = .ok (.aload_n 0, 1) := by decide +kernel
theorem dX7_read_35 : decode cX7_read 35 = .ok (.getfield 75, 3) := by decide +kernel
theorem dX7_read_38 : decode cX7_read 38 = .ok (.ifCond .le 7, 3) := by decide +kernel
theorem dX7_read_41 : decode cX7_read 41 = .ok (.iconst 1, 1) := by decide +kernel
theorem dX7_read_42 : decode cX7_read 42 = .ok (.goto 4, 3) := by decide +kernel
theorem dX7_read_45 : decode cX7_read 45 = .ok (.iconst 0, 1) := by decide +kernel
theorem dX7_read_46 : decode cX7_read 46 = .ok (.istore_n 3, 1) := by decide +kernel
theorem dX7_read_47 : decode cX7_read 47 = .ok (.iload_n 3, 1) := by decide +kernel
theorem dX7_read_48 : decode cX7_read 48 = .ok (.ifCond .eq 63, 3) := by decide +kernel
theorem dX7_read_51 : decode cX7_read 51 = .ok (.aload_n 0, 1) := by decide +kernel
theorem dX7_read_52 : decode cX7_read 52 = .ok (.iload_n 2, 1) := by decide +kernel
theorem dX7_read_53 : decode cX7_read 53 = .ok (.invokevirtual 287, 3) := by decide +kernel
theorem dX7_read_56 : decode cX7_read 56 = .ok (.istore_n 2, 1) := by decide +kernel
theorem dX7_read_57 : decode cX7_read 57 = .ok (.iload_n 2, 1) := by decide +kernel
theorem dX7_read_58 : decode cX7_read 58 = .ok (.ifCond .lt 15, 3) := by decide +kernel
theorem dX7_read_61 : decode cX7_read 61 = .ok (.iload_n 2, 1) := by decide +kernel
theorem dX7_read_62 : decode cX7_read 62 = .ok (.aload_n 0, 1) := by decide +kernel
theorem dX7_read_63 : decode cX7_read 63 = .ok (.getfield 75, 3) := by decide +kernel
theorem dX7_read_66 : decode cX7_read 66 = .ok (.if_icmp .ge 7, 3) := by decide +kernel
theorem dX7_read_69 : decode cX7_read 69 = .ok (.iconst 1, 1) := by decide +kernel
theorem dX7_read_70 : decode cX7_read 70 = .ok (.goto 4, 3) := by decide +kernel
theorem dX7_read_73 : decode cX7_read 73 = .ok (.iconst 0, 1) := by decide +kernel
theorem dX7_read_74 : decode cX7_read 74 = .ok (.istore_n 3, 1) := by decide +kernel
theorem dX7_read_75 : decode cX7_read 75 = .ok (.iload_n 3, 1) := by decide +kernel
theorem dX7_read_76 : decode cX7_read 76 = .ok (.ifCond .eq 20, 3) := by decide +kernel
theorem dX7_read_79 : decode cX7_read 79 = .ok (.aload_n 0, 1) := by decide +kernel
theorem dX7_read_80 : decode cX7_read 80 = .ok (.getfield 39, 3) := by decide +kernel
theorem dX7_read_83 : decode cX7_read 83 = .ok (.iload_n 2, 1) := by decide +kernel
theorem dX7_read_84 : decode cX7_read 84 = .ok (.iaload, 1) := by decide +kernel
theorem dX7_read_85 : decode cX7_read 85 = .ok (.bipush 32, 2) := by decide +kernel
theorem dX7_read_87 : decode cX7_read 87 = .ok (.if_icmp .eq 9, 3) := by decide +kernel
theorem dX7_read_90 : decode cX7_read 90 = .ok (.iconst (-1), 1) := by decide +kernel
theorem dX7_read_91 : decode cX7_read 91 = .ok (.iload_n 2, 1) := by decide +kernel
theorem dX7_read_92 : decode cX7_read 92 = .ok (.isub, 1) := by decide +kernel
theorem dX7_read_93 : decode cX7_read 93 = .ok (.istore_n 2, 1) := by decide +kernel
theorem dX7_read_94 : decode cX7_read 94 = .ok (.iconst 0, 1) := by decide +kernel
theorem dX7_read_95 : decode cX7_read 95 = .ok (.istore_n 3, 1) := by decide +kernel
theorem dX7_read_96 : decode cX7_read 96 = .ok (.iload_n 3, 1) := by decide +kernel
theorem dX7_read_97 : decode cX7_read 97 = .ok (.ifCond .eq 9, 3) := by decide +kernel
theorem dX7_read_100 : decode cX7_read 100 = .ok (.iload_n 2, 1) := by decide +kernel
theorem dX7_read_101 : decode cX7_read 101 = .ok (.iconst 1, 1) := by decide +kernel
theorem dX7_read_102 : decode cX7_read 102 = .ok (.iadd, 1) := by decide +kernel
theorem dX7_read_103 : decode cX7_read 103 = .ok (.goto 4, 3) := by decide +kernel
theorem dX7_read_106 : decode cX7_read 106 = .ok (.iload_n 2, 1) := by decide +kernel
theorem dX7_read_107 : decode cX7_read 107 = .ok (.istore_n 2, 1) := by decide +kernel
theorem dX7_read_108 : decode cX7_read 108 = .ok (.goto (-61), 3) := by decide +kernel
theorem dX7_read_111 : decode cX7_read 111 = .ok (.iload_n 2, 1) := by decide +kernel
theorem dX7_read_112 : decode cX7_read 112 = .ok (.ifCond .ge 17, 3) := by decide +kernel
theorem dX7_read_115 : decode cX7_read 115 = .ok (.aload_n 0, 1) := by decide +kernel
theorem dX7_read_116 : decode cX7_read 116 = .ok (.iconst (-1), 1) := by decide +kernel
theorem dX7_read_117 : decode cX7_read 117 = .ok (.iload_n 2, 1) := by decide +kernel
theorem dX7_read_118 : decode cX7_read 118 = .ok (.isub, 1) := by decide +kernel
theorem dX7_read_119 : decode cX7_read 119 = .ok (.putfield 42, 3) := by decide +kernel
theorem dX7_read_122 : decode cX7_read 122 = .ok (.aload_n 0, 1) := by decide +kernel
theorem dX7_read_123 : decode cX7_read 123 = .ok (.iconst 1, 1) := by decide +kernel
theorem dX7_read_124 : decode cX7_read 124 = .ok (.putfield 60, 3) := by decide +kernel
theorem dX7_read_127 : decode cX7_read 127 = .ok (.iconst 0, 1) := by decide +kernel
theorem dX7_read_128 : decode cX7_read 128 = .ok (.ireturn, 1) := by decide +kernel
theorem dX7_read_129 : decode cX7_read 129 = .ok (.aload_n 0, 1) := by decide +kernel
theorem dX7_read_130 : decode cX7_read 130 = .ok (.iconst 3, 1) := by decide +kernel
theorem dX7_read_131 : decode cX7_read 131 = .ok (.iload_n 1, 1) := by decide +kernel
theorem dX7_read_132 : decode cX7_read 132 = .ok (.invokevirtual 103, 3) := by decide +kernel
theorem dX7_read_135 : decode cX7_read 135 = .ok (.aload_n 0, 1) := by decide +kernel
theorem dX7_read_136 : decode cX7_read 136 = .ok (.iconst 0, 1) := by decide +kernel
theorem dX7_read_137 : decode cX7_read 137 = .ok (.putfield 75, 3) := by decide +kernel
theorem dX7_read_140 : decode cX7_read 140 = .ok (.aload_n 0, 1) := by decide +kernel
theorem dX7_read_141 : decode cX7_read 141 = .ok (.getfield 13, 3) := by decide +kernel
theorem dX7_read_144 : decode cX7_read 144 = .ok (.iload_n 1, 1) := by decide +kernel
theorem dX7_read_145 : decode cX7_read 145 = .ok (.iaload, 1) := by decide +kernel
theorem dX7_read_146 : decode cX7_read 146 = .ok (.ireturn, 1) := by decide +kernel
theorem dX7_place_0 : decode cX7_place 0 = .ok (.aload_n 0, 1) := by decide +kernel
theorem dX7_place_1 : decode cX7_place 1 = .ok (.iconst 0, 1) := by decide +kernel
theorem dX7_place_2 : decode cX7_place 2 = .ok (.putfield 60, 3) := by decide +kernel
theorem dX7_place_5 : decode cX7_place 5 = .ok (.aload_n 0, 1) := by decide +kernel
theorem dX7_place_6 : decode cX7_place 6 = .ok (.getfield 42, 3) := by decide +kernel
theorem dX7_place_9 : decode cX7_place 9 = .ok (.ireturn, 1) := by decide +kernel
theorem dJ11_isValidCodePoint_9a6ad_0 : decode cJ11_isValidCodePoint_9a6ad 0 = .ok (.iload_n 0, 1) := by decide +kernel
theorem dJ11_isValidCodePoint_9a6ad_1 : decode cJ11_isValidCodePoint_9a6ad 1 = .ok (.bipush 16, 2) := by decide +kernel
theorem dJ11_isValidCodePoint_9a6ad_3 : decode cJ11_isValidCodePoint_9a6ad 3 = .ok (.iushr, 1) := by decide +kernel
theorem dJ11_isValidCodePoint_9a6ad_4 : decode cJ11_isValidCodePoint_9a6ad 4 = .ok (.istore_n 1, 1) := by decide +kernel
theorem dJ11_isValidCodePoint_9a6ad_5 : decode cJ11_isValidCodePoint_9a6ad 5 = .ok (.iload_n 1, 1) := by decide +kernel
theorem dJ11_isValidCodePoint_9a6ad_6 : decode cJ11_isValidCodePoint_9a6ad 6 = .ok (.bipush 17, 2) := by decide +kernel
theorem dJ11_isValidCodePoint_9a6ad_8 : decode cJ11_isValidCodePoint_9a6ad 8 = .ok (.if_icmp .ge 7, 3) := by decide +kernel
theorem dJ11_isValidCodePoint_9a6ad_11 : decode cJ11_isValidCodePoint_9a6ad 11 = .ok (.iconst 1, 1) := by decide +kernel
theorem dJ11_isValidCodePoint_9a6ad_12 : decode cJ11_isValidCodePoint_9a6ad 12 = .ok (.goto 4, 3) := by decide +kernel
theorem dJ11_isValidCodePoint_9a6ad_15 : decode cJ11_isValidCodePoint_9a6ad 15 = .ok (.iconst 0, 1) := by decide +kernel
theorem dJ11_isValidCodePoint_9a6ad_16 : decode cJ11_isValidCodePoint_9a6ad 16 = .ok (.ireturn, 1) := by decide +kernel
theorem dJ11_highSurrogate_5068e_0 : decode cJ11_highSurrogate_5068e 0 = .ok (.iload_n 0, 1) := by decide +kernel
theorem dJ11_highSurrogate_5068e_1 : decode cJ11_highSurrogate_5068e 1 = .ok (.bipush 10, 2) := by decide +kernel
theorem dJ11_highSurrogate_5068e_3 : decode cJ11_highSurrogate_5068e 3 = .ok (.iushr, 1) := by decide +kernel
theorem dJ11_highSurrogate_5068e_4 : decode cJ11_highSurrogate_5068e 4 = .ok (.ldc 110, 2) := by decide +kernel
theorem dJ11_highSurrogate_5068e_6 : decode cJ11_highSurrogate_5068e 6 = .ok (.iadd, 1) := by decide +kernel
theorem dJ11_highSurrogate_5068e_7 : decode cJ11_highSurrogate_5068e 7 = .ok (.i2c, 1) := by decide +kernel
theorem dJ11_highSurrogate_5068e_8 : decode cJ11_highSurrogate_5068e 8 = .ok (.ireturn, 1) := by decide +kernel
theorem dJ11_lowSurrogate_5068e_0 : decode cJ11_lowSurrogate_5068e 0 = .ok (.iload_n 0, 1) := by decide +kernel
theorem dJ11_lowSurrogate_5068e_1 : decode cJ11_lowSurrogate_5068e 1 = .ok (.sipush 1023, 3) := by decide +kernel
theorem dJ11_lowSurrogate_5068e_4 : decode cJ11_lowSurrogate_5068e 4 = .ok (.iand, 1) := by decide +kernel
theorem dJ11_lowSurrogate_5068e_5 : decode cJ11_lowSurrogate_5068e 5 = .ok (.ldc 76, 2) := by decide +kernel
theorem dJ11_lowSurrogate_5068e_7 : decode cJ11_lowSurrogate_5068e 7 = .ok (.iadd, 1) := by decide +kernel
theorem dJ11_lowSurrogate_5068e_8 : decode cJ11_lowSurrogate_5068e 8 = .ok (.i2c, 1) := by decide +kernel
theorem dJ11_lowSurrogate_5068e_9 : decode cJ11_lowSurrogate_5068e 9 = .ok (.ireturn, 1) := by decide +kernel
theorem dJ9_max_7cf53_0 : decode cJ9_max_7cf53 0 = .ok (.iload_n 0, 1) := by decide +kernel
theorem dJ9_max_7cf53_1 : decode cJ9_max_7cf53 1 = .ok (.iload_n 1, 1) := by decide +kernel
theorem dJ9_max_7cf53_2 : decode cJ9_max_7cf53 2 = .ok (.if_icmp .lt 7, 3) := by decide +kernel
theorem dJ9_max_7cf53_5 : decode cJ9_max_7cf53 5 = .ok (.iload_n 0, 1) := by decide +kernel
theorem dJ9_max_7cf53_6 : decode cJ9_max_7cf53 6 = .ok (.goto 4, 3) := by decide +kernel
theorem dJ9_max_7cf53_9 : decode cJ9_max_7cf53 9 = .ok (.iload_n 1, 1) := by decide +kernel
theorem dJ9_max_7cf53_10 : decode cJ9_max_7cf53 10 = .ok (.ireturn, 1) := by decide +kernel
theorem dJ9_min_7cf53_0 : decode cJ9_min_7cf53 0 = .ok (.iload_n 0, 1) := by decide +kernel
theorem dJ9_min_7cf53_1 : decode cJ9_min_7cf53 1 = .ok (.iload_n 1, 1) := by decide +kernel
theorem dJ9_min_7cf53_2 : decode cJ9_min_7cf53 2 = .ok (.if_icmp .gt 7, 3) := by decide +kernel
theorem dJ9_min_7cf53_5 : decode cJ9_min_7cf53 5 = .ok (.iload_n 0, 1) := by decide +kernel
theorem dJ9_min_7cf53_6 : decode cJ9_min_7cf53 6 = .ok (.goto 4, 3) := by decide +kernel
theorem dJ9_min_7cf53_9 : decode cJ9_min_7cf53 9 = .ok (.iload_n 1, 1) := by decide +kernel
theorem dJ9_min_7cf53_10 : decode cJ9_min_7cf53 10 = .ok (.ireturn, 1) := by decide +kernel
theorem dJ0_length_8abf5_0 : decode cJ0_length_8abf5 0 = .ok (.aload_n 0, 1) := by decide +kernel
theorem dJ0_length_8abf5_1 : decode cJ0_length_8abf5 1 = .ok (.getfield 9, 3) := by decide +kernel
theorem dJ0_length_8abf5_4 : decode cJ0_length_8abf5 4 = .ok (.arraylength, 1) := by decide +kernel
theorem dJ0_length_8abf5_5 : decode cJ0_length_8abf5 5 = .ok (.aload_n 0, 1) := by decide +kernel
theorem dJ0_length_8abf5_6 : decode cJ0_length_8abf5 6 = .ok (.invokevirtual 335, 3) := by decide +kernel
theorem dJ0_length_8abf5_9 : decode cJ0_length_8abf5 9 = .ok (.ishr, 1) := by decide +kernel
theorem dJ0_length_8abf5_10 : decode cJ0_length_8abf5 10 = .ok (.ireturn, 1) := by decide +kernel
theorem dJ0_charAt_5068e_0 : decode cJ0_charAt_5068e 0 = .ok (.aload_n 0, 1) := by decide +kernel
theorem dJ0_charAt_5068e_1 : decode cJ0_charAt_5068e 1 = .ok (.invokevirtual 492, 3) := by decide +kernel
theorem dJ0_charAt_5068e_4 : decode cJ0_charAt_5068e 4 = .ok (.ifCond .eq 12, 3) := by decide +kernel
theorem dJ0_charAt_5068e_7 : decode cJ0_charAt_5068e 7 = .ok (.aload_n 0, 1) := by decide +kernel
theorem dJ0_charAt_5068e_8 : decode cJ0_charAt_5068e 8 = .ok (.getfield 9, 3) := by decide +kernel
theorem dJ0_charAt_5068e_11 : decode cJ0_charAt_5068e 11 = .ok (.iload_n 1, 1) := by decide +kernel
theorem dJ0_charAt_5068e_12 : decode cJ0_charAt_5068e 12 = .ok (.invokestatic 495, 3) := by decide +kernel
theorem dJ0_charAt_5068e_15 : decode cJ0_charAt_5068e 15 = .ok (.ireturn, 1) := by decide +kernel
theorem dJ0_charAt_5068e_16 : decode cJ0_charAt_5068e 16 = .ok (.aload_n 0, 1) := by decide +kernel
theorem dJ0_charAt_5068e_17 : decode cJ0_charAt_5068e 17 = .ok (.getfield 9, 3) := by decide +kernel
theorem dJ0_charAt_5068e_20 : decode cJ0_charAt_5068e 20 = .ok (.iload_n 1, 1) := by decide +kernel
theorem dJ0_charAt_5068e_21 : decode cJ0_charAt_5068e 21 = .ok (.invokestatic 498, 3) := by decide +kernel
theorem dJ0_charAt_5068e_24 : decode cJ0_charAt_5068e 24 = .ok (.ireturn, 1) := by decide +kernel
theorem dJ0_indexOf_0f7a4_0 : decode cJ0_indexOf_0f7a4 0 = .ok (.aload_n 0, 1) := by decide +kernel
theorem dJ0_indexOf_0f7a4_1 : decode cJ0_indexOf_0f7a4 1 = .ok (.iload_n 1, 1) := by decide +kernel
theorem dJ0_indexOf_0f7a4_2 : decode cJ0_indexOf_0f7a4 2 = .ok (.iconst 0, 1) := by decide +kernel
theorem dJ0_indexOf_0f7a4_3 : decode cJ0_indexOf_0f7a4 3 = .ok (.invokevirtual 633, 3) := by decide +kernel
theorem dJ0_indexOf_0f7a4_6 : decode cJ0_indexOf_0f7a4 6 = .ok (.ireturn, 1) := by decide +kernel
theorem dJ0_indexOf_7cf53_0 : decode cJ0_indexOf_7cf53 0 = .ok (.aload_n 0, 1) := by decide +kernel
theorem dJ0_indexOf_7cf53_1 : decode cJ0_indexOf_7cf53 1 = .ok (.invokevirtual 492, 3) := by decide +kernel
theorem dJ0_indexOf_7cf53_4 : decode cJ0_indexOf_7cf53 4 = .ok (.ifCond .eq 19, 3) := by decide +kernel
theorem dJ0_indexOf_7cf53_7 : decode cJ0_indexOf_7cf53 7 = .ok (.aload_n 0, 1) := by decide +kernel
theorem dJ0_indexOf_7cf53_8 : decode cJ0_indexOf_7cf53 8 = .ok (.getfield 9, 3) := by decide +kernel
theorem dJ0_indexOf_7cf53_11 : decode cJ0_indexOf_7cf53 11 = .ok (.iload_n 1, 1) := by decide +kernel
theorem dJ0_indexOf_7cf53_12 : decode cJ0_indexOf_7cf53 12 = .ok (.iload_n 2, 1) := by decide +kernel
theorem dJ0_indexOf_7cf53_13 : decode cJ0_indexOf_7cf53 13 = .ok (.aload_n 0, 1) := by decide +kernel
theorem dJ0_indexOf_7cf53_14 : decode cJ0_indexOf_7cf53 14 = .ok (.invokevirtual 505, 3) := by decide +kernel
theorem dJ0_indexOf_7cf53_17 : decode cJ0_indexOf_7cf53 17 = .ok (.invokestatic 637, 3) := by decide +kernel
theorem dJ0_indexOf_7cf53_20 : decode cJ0_indexOf_7cf53 20 = .ok (.goto 16, 3) := by decide +kernel
theorem dJ0_indexOf_7cf53_23 : decode cJ0_indexOf_7cf53 23 = .ok (.aload_n 0, 1) := by decide +kernel
theorem dJ0_indexOf_7cf53_24 : decode cJ0_indexOf_7cf53 24 = .ok (.getfield 9, 3) := by decide +kernel
theorem dJ0_indexOf_7cf53_27 : decode cJ0_indexOf_7cf53 27 = .ok (.iload_n 1, 1) := by decide +kernel
theorem dJ0_indexOf_7cf53_28 : decode cJ0_indexOf_7cf53 28 = .ok (.iload_n 2, 1) := by decide +kernel
theorem dJ0_indexOf_7cf53_29 : decode cJ0_indexOf_7cf53 29 = .ok (.aload_n 0, 1) := by decide +kernel
theorem dJ0_indexOf_7cf53_30 : decode cJ0_indexOf_7cf53 30 = .ok (.invokevirtual 505, 3) := by decide +kernel
theorem dJ0_indexOf_7cf53_33 : decode cJ0_indexOf_7cf53 33 = .ok (.invokestatic 640, 3) := by decide +kernel
theorem dJ0_indexOf_7cf53_36 : decode cJ0_indexOf_7cf53 36 = .ok (.ireturn, 1) := by decide +kernel
theorem dJ0_coder_7d493_0 : decode cJ0_coder_7d493 0 = .ok (.getstatic 38, 3) := by decide +kernel
theorem dJ0_coder_7d493_3 : decode cJ0_coder_7d493 3 = .ok (.ifCond .eq 10, 3) := by decide +kernel
theorem dJ0_coder_7d493_6 : decode cJ0_coder_7d493 6 = .ok (.aload_n 0, 1) := by decide +kernel
theorem dJ0_coder_7d493_7 : decode cJ0_coder_7d493 7 = .ok (.getfield 15, 3) := by decide +kernel
theorem dJ0_coder_7d493_10 : decode cJ0_coder_7d493 10 = .ok (.goto 4, 3) := by decide +kernel
theorem dJ0_coder_7d493_13 : decode cJ0_coder_7d493 13 = .ok (.iconst 1, 1) := by decide +kernel
theorem dJ0_coder_7d493_14 : decode cJ0_coder_7d493 14 = .ok (.ireturn, 1) := by decide +kernel
theorem dJ0_isLatin1_aae02_0 : decode cJ0_isLatin1_aae02 0 = .ok (.getstatic 38, 3) := by decide +kernel
theorem dJ0_isLatin1_aae02_3 : decode cJ0_isLatin1_aae02 3 = .ok (.ifCond .eq 14, 3) := by decide +kernel
theorem dJ0_isLatin1_aae02_6 : decode cJ0_isLatin1_aae02 6 = .ok (.aload_n 0, 1) := by decide +kernel
theorem dJ0_isLatin1_aae02_7 : decode cJ0_isLatin1_aae02 7 = .ok (.getfield 15, 3) := by decide +kernel
theorem dJ0_isLatin1_aae02_10 : decode cJ0_isLatin1_aae02 10 = .ok (.ifCond .ne 7, 3) := by decide +kernel
theorem dJ0_isLatin1_aae02_13 : decode cJ0_isLatin1_aae02 13 = .ok (.iconst 1, 1) := by decide +kernel
theorem dJ0_isLatin1_aae02_14 : decode cJ0_isLatin1_aae02 14 = .ok (.goto 4, 3) := by decide +kernel
theorem dJ0_isLatin1_aae02_17 : decode cJ0_isLatin1_aae02 17 = .ok (.iconst 0, 1) := by decide +kernel
theorem dJ0_isLatin1_aae02_18 : decode cJ0_isLatin1_aae02 18 = .ok (.ireturn, 1) := by decide +kernel
theorem dJ0_checkIndex_df160_0 : decode cJ0_checkIndex_df160 0 = .ok (.iload_n 0, 1) := by decide +kernel
theorem dJ0_checkIndex_df160_1 : decode cJ0_checkIndex_df160 1 = .ok (.iload_n 1, 1) := by decide +kernel
theorem dJ0_checkIndex_df160_2 : decode cJ0_checkIndex_df160 2 = .ok (.getstatic 1053, 3) := by decide +kernel
theorem dJ0_checkIndex_df160_5 : decode cJ0_checkIndex_df160 5 = .ok (.invokestatic 1059, 3) := by decide +kernel
theorem dJ0_checkIndex_df160_8 : decode cJ0_checkIndex_df160 8 = .ok (.pop, 1) := by decide +kernel
theorem dJ0_checkIndex_df160_9 : decode cJ0_checkIndex_df160 9 = .ok (.return_, 1) := by decide +kernel
theorem dJ0_checkBoundsBeginEnd_23922_0 : decode cJ0_checkBoundsBeginEnd_23922 0 = .ok (.iload_n 0, 1) := by decide +kernel
theorem dJ0_checkBoundsBeginEnd_23922_1 : decode cJ0_checkBoundsBeginEnd_23922 1 = .ok (.iload_n 1, 1) := by decide +kernel
theorem dJ0_checkBoundsBeginEnd_23922_2 : decode cJ0_checkBoundsBeginEnd_23922 2 = .ok (.iload_n 2, 1) := by decide +kernel
theorem dJ0_checkBoundsBeginEnd_23922_3 : decode cJ0_checkBoundsBeginEnd_23922 3 = .ok (.getstatic 1053, 3) := by decide +kernel
theorem dJ0_checkBoundsBeginEnd_23922_6 : decode cJ0_checkBoundsBeginEnd_23922 6 = .ok (.invokestatic 1062, 3) := by decide +kernel
theorem dJ0_checkBoundsBeginEnd_23922_9 : decode cJ0_checkBoundsBeginEnd_23922 9 = .ok (.pop, 1) := by decide +kernel
theorem dJ0_checkBoundsBeginEnd_23922_10 : decode cJ0_checkBoundsBeginEnd_23922 10 = .ok (.return_, 1) := by decide +kernel
theorem dJ1_charAt_3b067_0 : decode cJ1_charAt_3b067 0 = .ok (.iload_n 1, 1) := by decide +kernel
theorem dJ1_charAt_3b067_1 : decode cJ1_charAt_3b067 1 = .ok (.aload_n 0, 1) := by decide +kernel
theorem dJ1_charAt_3b067_2 : decode cJ1_charAt_3b067 2 = .ok (.arraylength, 1) := by decide +kernel
theorem dJ1_charAt_3b067_3 : decode cJ1_charAt_3b067 3 = .ok (.invokestatic 9, 3) := by decide +kernel
theorem dJ1_charAt_3b067_6 : decode cJ1_charAt_3b067 6 = .ok (.aload_n 0, 1) := by decide +kernel
theorem dJ1_charAt_3b067_7 : decode cJ1_charAt_3b067 7 = .ok (.iload_n 1, 1) := by decide +kernel
theorem dJ1_charAt_3b067_8 : decode cJ1_charAt_3b067 8 = .ok (.baload, 1) := by decide +kernel
theorem dJ1_charAt_3b067_9 : decode cJ1_charAt_3b067 9 = .ok (.sipush 255, 3) := by decide +kernel
theorem dJ1_charAt_3b067_12 : decode cJ1_charAt_3b067 12 = .ok (.iand, 1) := by decide +kernel
theorem dJ1_charAt_3b067_13 : decode cJ1_charAt_3b067 13 = .ok (.i2c, 1) := by decide +kernel
theorem dJ1_charAt_3b067_14 : decode cJ1_charAt_3b067 14 = .ok (.ireturn, 1) := by decide +kernel
theorem dJ1_canEncode_9a6ad_0 : decode cJ1_canEncode_9a6ad 0 = .ok (.iload_n 0, 1) := by decide +kernel
theorem dJ1_canEncode_9a6ad_1 : decode cJ1_canEncode_9a6ad 1 = .ok (.ifCond .lt 14, 3) := by decide +kernel
theorem dJ1_canEncode_9a6ad_4 : decode cJ1_canEncode_9a6ad 4 = .ok (.iload_n 0, 1) := by decide +kernel
theorem dJ1_canEncode_9a6ad_5 : decode cJ1_canEncode_9a6ad 5 = .ok (.sipush 255, 3) := by decide +kernel
theorem dJ1_canEncode_9a6ad_8 : decode cJ1_canEncode_9a6ad 8 = .ok (.if_icmp .gt 7, 3) := by decide +kernel
theorem dJ1_canEncode_9a6ad_11 : decode cJ1_canEncode_9a6ad 11 = .ok (.iconst 1, 1) := by decide +kernel
theorem dJ1_canEncode_9a6ad_12 : decode cJ1_canEncode_9a6ad 12 = .ok (.goto 4, 3) := by decide +kernel
theorem dJ1_canEncode_9a6ad_15 : decode cJ1_canEncode_9a6ad 15 = .ok (.iconst 0, 1) := by decide +kernel
theorem dJ1_canEncode_9a6ad_16 : decode cJ1_canEncode_9a6ad 16 = .ok (.ireturn, 1) := by decide +kernel
theorem dJ1_indexOf_4cfef_0 : decode cJ1_indexOf_4cfef 0 = .ok (.iload_n 1, 1) := by decide +kernel
theorem dJ1_indexOf_4cfef_1 : decode cJ1_indexOf_4cfef 1 = .ok (.invokestatic 88, 3) := by decide +kernel
theorem dJ1_indexOf_4cfef_4 : decode cJ1_indexOf_4cfef 4 = .ok (.ifCond .ne 5, 3) := by decide +kernel
theorem dJ1_indexOf_4cfef_7 : decode cJ1_indexOf_4cfef 7 = .ok (.iconst (-1), 1) := by decide +kernel
theorem dJ1_indexOf_4cfef_8 : decode cJ1_indexOf_4cfef 8 = .ok (.ireturn, 1) := by decide +kernel
theorem dJ1_indexOf_4cfef_9 : decode cJ1_indexOf_4cfef 9 = .ok (.iload_n 2, 1) := by decide +kernel
theorem dJ1_indexOf_4cfef_10 : decode cJ1_indexOf_4cfef 10 = .ok (.iconst 0, 1) := by decide +kernel
theorem dJ1_indexOf_4cfef_11 : decode cJ1_indexOf_4cfef 11 = .ok (.invokestatic 92, 3) := by decide +kernel
theorem dJ1_indexOf_4cfef_14 : decode cJ1_indexOf_4cfef 14 = .ok (.istore_n 2, 1) := by decide +kernel
theorem dJ1_indexOf_4cfef_15 : decode cJ1_indexOf_4cfef 15 = .ok (.iload_n 3, 1) := by decide +kernel
theorem dJ1_indexOf_4cfef_16 : decode cJ1_indexOf_4cfef 16 = .ok (.aload_n 0, 1) := by decide +kernel
theorem dJ1_indexOf_4cfef_17 : decode cJ1_indexOf_4cfef 17 = .ok (.arraylength, 1) := by decide +kernel
theorem dJ1_indexOf_4cfef_18 : decode cJ1_indexOf_4cfef 18 = .ok (.invokestatic 38, 3) := by decide +kernel
theorem dJ1_indexOf_4cfef_21 : decode cJ1_indexOf_4cfef 21 = .ok (.istore_n 3, 1) := by decide +kernel
theorem dJ1_indexOf_4cfef_22 : decode cJ1_indexOf_4cfef 22 = .ok (.iload_n 2, 1) := by decide +kernel
theorem dJ1_indexOf_4cfef_23 : decode cJ1_indexOf_4cfef 23 = .ok (.iload_n 3, 1) := by decide +kernel
theorem dJ1_indexOf_4cfef_24 : decode cJ1_indexOf_4cfef 24 = .ok (.if_icmp .lt 5, 3) := by decide +kernel
theorem dJ1_indexOf_4cfef_27 : decode cJ1_indexOf_4cfef 27 = .ok (.iconst (-1), 1) := by decide +kernel
theorem dJ1_indexOf_4cfef_28 : decode cJ1_indexOf_4cfef 28 = .ok (.ireturn, 1) := by decide +kernel
theorem dJ1_indexOf_4cfef_29 : decode cJ1_indexOf_4cfef 29 = .ok (.aload_n 0, 1) := by decide +kernel
theorem dJ1_indexOf_4cfef_30 : decode cJ1_indexOf_4cfef 30 = .ok (.iload_n 1, 1) := by decide +kernel
theorem dJ1_indexOf_4cfef_31 : decode cJ1_indexOf_4cfef 31 = .ok (.iload_n 2, 1) := by decide +kernel
theorem dJ1_indexOf_4cfef_32 : decode cJ1_indexOf_4cfef 32 = .ok (.iload_n 3, 1) := by decide +kernel
theorem dJ1_indexOf_4cfef_33 : decode cJ1_indexOf_4cfef 33 = .ok (.invokestatic 95, 3) := by decide +kernel
theorem dJ1_indexOf_4cfef_36 : decode cJ1_indexOf_4cfef 36 = .ok (.ireturn, 1) := by decide +kernel
theorem dJ1_indexOfChar_4cfef_0 : decode cJ1_indexOfChar_4cfef 0 = .ok (.iload_n 1, 1) := by decide +kernel
theorem dJ1_indexOfChar_4cfef_1 : decode cJ1_indexOfChar_4cfef 1 = .ok (.i2b, 1) := by decide +kernel
theorem dJ1_indexOfChar_4cfef_2 : decode cJ1_indexOfChar_4cfef 2 = .ok (.istore 4, 2) := by decide +kernel
theorem dJ1_indexOfChar_4cfef_4 : decode cJ1_indexOfChar_4cfef 4 = .ok (.iload_n 2, 1) := by decide +kernel
theorem dJ1_indexOfChar_4cfef_5 : decode cJ1_indexOfChar_4cfef 5 = .ok (.istore 5, 2) := by decide +kernel
theorem dJ1_indexOfChar_4cfef_7 : decode cJ1_indexOfChar_4cfef 7 = .ok (.iload 5, 2) := by decide +kernel
theorem dJ1_indexOfChar_4cfef_9 : decode cJ1_indexOfChar_4cfef 9 = .ok (.iload_n 3, 1) := by decide +kernel
theorem dJ1_indexOfChar_4cfef_10 : decode cJ1_indexOfChar_4cfef 10 = .ok (.if_icmp .ge 21, 3) := by decide +kernel
theorem dJ1_indexOfChar_4cfef_13 : decode cJ1_indexOfChar_4cfef 13 = .ok (.aload_n 0, 1) := by decide +kernel
theorem dJ1_indexOfChar_4cfef_14 : decode cJ1_indexOfChar_4cfef 14 = .ok (.iload 5, 2) := by decide +kernel
theorem dJ1_indexOfChar_4cfef_16 : decode cJ1_indexOfChar_4cfef 16 = .ok (.baload, 1) := by decide +kernel
theorem dJ1_indexOfChar_4cfef_17 : decode cJ1_indexOfChar_4cfef 17 = .ok (.iload 4, 2) := by decide +kernel
theorem dJ1_indexOfChar_4cfef_19 : decode cJ1_indexOfChar_4cfef 19 = .ok (.if_icmp .ne 6, 3) := by decide +kernel
theorem dJ1_indexOfChar_4cfef_22 : decode cJ1_indexOfChar_4cfef 22 = .ok (.iload 5, 2) := by decide +kernel
theorem dJ1_indexOfChar_4cfef_24 : decode cJ1_indexOfChar_4cfef 24 = .ok (.ireturn, 1) := by decide +kernel
theorem dJ1_indexOfChar_4cfef_25 : decode cJ1_indexOfChar_4cfef 25 = .ok (.iinc 5 1, 3) := by decide +kernel
theorem dJ1_indexOfChar_4cfef_28 : decode cJ1_indexOfChar_4cfef 28 = .ok (.goto (-21), 3) := by decide +kernel
theorem dJ1_indexOfChar_4cfef_31 : decode cJ1_indexOfChar_4cfef 31 = .ok (.iconst (-1), 1) := by decide +kernel
theorem dJ1_indexOfChar_4cfef_32 : decode cJ1_indexOfChar_4cfef 32 = .ok (.ireturn, 1) := by decide +kernel
theorem dJ2_getChar_3b067_0 : decode cJ2_getChar_3b067 0 = .ok (.getstatic 44, 3) := by decide +kernel
theorem dJ2_getChar_3b067_3 : decode cJ2_getChar_3b067 3 = .ok (.ifCond .ne 25, 3) := by decide +kernel
theorem dJ2_getChar_3b067_6 : decode cJ2_getChar_3b067 6 = .ok (.iload_n 1, 1) := by decide +kernel
theorem dJ2_getChar_3b067_7 : decode cJ2_getChar_3b067 7 = .ok (.ifCond .lt 11, 3) := by decide +kernel
theorem dJ2_getChar_3b067_10 : decode cJ2_getChar_3b067 10 = .ok (.iload_n 1, 1) := by decide +kernel
theorem dJ2_getChar_3b067_11 : decode cJ2_getChar_3b067 11 = .ok (.aload_n 0, 1) := by decide +kernel
theorem dJ2_getChar_3b067_12 : decode cJ2_getChar_3b067 12 = .ok (.invokestatic 48, 3) := by decide +kernel
theorem dJ2_getChar_3b067_15 : decode cJ2_getChar_3b067 15 = .ok (.if_icmp .lt 13, 3) := by decide +kernel
theorem dJ2_getChar_3b067_18 : decode cJ2_getChar_3b067 18 = .ok (.new 52, 3) := by decide +kernel
theorem dJ2_getChar_3b067_21 : decode cJ2_getChar_3b067 21 = .ok (.dup, 1) := by decide +kernel
theorem dJ2_getChar_3b067_22 : decode cJ2_getChar_3b067 22 = .ok (.ldc 54, 2) := by decide +kernel
theorem dJ2_getChar_3b067_24 : decode cJ2_getChar_3b067 24 = .ok (.invokespecial 56, 3) := by decide +kernel
theorem dJ2_getChar_3b067_27 : decode cJ2_getChar_3b067 27 = .ok (.athrow, 1) := by decide +kernel
theorem dJ2_getChar_3b067_28 : decode cJ2_getChar_3b067 28 = .ok (.iload_n 1, 1) := by decide +kernel
theorem dJ2_getChar_3b067_29 : decode cJ2_getChar_3b067 29 = .ok (.iconst 1, 1) := by decide +kernel
theorem dJ2_getChar_3b067_30 : decode cJ2_getChar_3b067 30 = .ok (.ishl, 1) := by decide +kernel
theorem dJ2_getChar_3b067_31 : decode cJ2_getChar_3b067 31 = .ok (.istore_n 1, 1) := by decide +kernel
theorem dJ2_getChar_3b067_32 : decode cJ2_getChar_3b067 32 = .ok (.aload_n 0, 1) := by decide +kernel
theorem dJ2_getChar_3b067_33 : decode cJ2_getChar_3b067 33 = .ok (.iload_n 1, 1) := by decide +kernel
theorem dJ2_getChar_3b067_34 : decode cJ2_getChar_3b067 34 = .ok (.iinc 1 1, 3) := by decide +kernel
theorem dJ2_getChar_3b067_37 : decode cJ2_getChar_3b067 37 = .ok (.baload, 1) := by decide +kernel
theorem dJ2_getChar_3b067_38 : decode cJ2_getChar_3b067 38 = .ok (.sipush 255, 3) := by decide +kernel
theorem dJ2_getChar_3b067_41 : decode cJ2_getChar_3b067 41 = .ok (.iand, 1) := by decide +kernel
theorem dJ2_getChar_3b067_42 : decode cJ2_getChar_3b067 42 = .ok (.getstatic 59, 3) := by decide +kernel
theorem dJ2_getChar_3b067_45 : decode cJ2_getChar_3b067 45 = .ok (.ishl, 1) := by decide +kernel
theorem dJ2_getChar_3b067_46 : decode cJ2_getChar_3b067 46 = .ok (.aload_n 0, 1) := by decide +kernel
theorem dJ2_getChar_3b067_47 : decode cJ2_getChar_3b067 47 = .ok (.iload_n 1, 1) := by decide +kernel
theorem dJ2_getChar_3b067_48 : decode cJ2_getChar_3b067 48 = .ok (.baload, 1) := by decide +kernel
theorem dJ2_getChar_3b067_49 : decode cJ2_getChar_3b067 49 = .ok (.sipush 255, 3) := by decide +kernel
theorem dJ2_getChar_3b067_52 : decode cJ2_getChar_3b067 52 = .ok (.iand, 1) := by decide +kernel
theorem dJ2_getChar_3b067_53 : decode cJ2_getChar_3b067 53 = .ok (.getstatic 63, 3) := by decide +kernel
theorem dJ2_getChar_3b067_56 : decode cJ2_getChar_3b067 56 = .ok (.ishl, 1) := by decide +kernel
theorem dJ2_getChar_3b067_57 : decode cJ2_getChar_3b067 57 = .ok (.ior, 1) := by decide +kernel
theorem dJ2_getChar_3b067_58 : decode cJ2_getChar_3b067 58 = .ok (.i2c, 1) := by decide +kernel
theorem dJ2_getChar_3b067_59 : decode cJ2_getChar_3b067 59 = .ok (.ireturn, 1) := by decide +kernel
theorem dJ2_length_9d52b_0 : decode cJ2_length_9d52b 0 = .ok (.aload_n 0, 1) := by decide +kernel
theorem dJ2_length_9d52b_1 : decode cJ2_length_9d52b 1 = .ok (.arraylength, 1) := by decide +kernel
theorem dJ2_length_9d52b_2 : decode cJ2_length_9d52b 2 = .ok (.iconst 1, 1) := by decide +kernel
theorem dJ2_length_9d52b_3 : decode cJ2_length_9d52b 3 = .ok (.ishr, 1) := by decide +kernel
theorem dJ2_length_9d52b_4 : decode cJ2_length_9d52b 4 = .ok (.ireturn, 1) := by decide +kernel
theorem dJ2_indexOf_4cfef_0 : decode cJ2_indexOf_4cfef 0 = .ok (.iload_n 2, 1) := by decide +kernel
theorem dJ2_indexOf_4cfef_1 : decode cJ2_indexOf_4cfef 1 = .ok (.iconst 0, 1) := by decide +kernel
theorem dJ2_indexOf_4cfef_2 : decode cJ2_indexOf_4cfef 2 = .ok (.invokestatic 224, 3) := by decide +kernel
theorem dJ2_indexOf_4cfef_5 : decode cJ2_indexOf_4cfef 5 = .ok (.istore_n 2, 1) := by decide +kernel
theorem dJ2_indexOf_4cfef_6 : decode cJ2_indexOf_4cfef 6 = .ok (.iload_n 3, 1) := by decide +kernel
theorem dJ2_indexOf_4cfef_7 : decode cJ2_indexOf_4cfef 7 = .ok (.aload_n 0, 1) := by decide +kernel
theorem dJ2_indexOf_4cfef_8 : decode cJ2_indexOf_4cfef 8 = .ok (.arraylength, 1) := by decide +kernel
theorem dJ2_indexOf_4cfef_9 : decode cJ2_indexOf_4cfef 9 = .ok (.iconst 1, 1) := by decide +kernel
theorem dJ2_indexOf_4cfef_10 : decode cJ2_indexOf_4cfef 10 = .ok (.ishr, 1) := by decide +kernel
theorem dJ2_indexOf_4cfef_11 : decode cJ2_indexOf_4cfef 11 = .ok (.invokestatic 183, 3) := by decide +kernel
theorem dJ2_indexOf_4cfef_14 : decode cJ2_indexOf_4cfef 14 = .ok (.istore_n 3, 1) := by decide +kernel
theorem dJ2_indexOf_4cfef_15 : decode cJ2_indexOf_4cfef 15 = .ok (.iload_n 2, 1) := by decide +kernel
theorem dJ2_indexOf_4cfef_16 : decode cJ2_indexOf_4cfef 16 = .ok (.iload_n 3, 1) := by decide +kernel
theorem dJ2_indexOf_4cfef_17 : decode cJ2_indexOf_4cfef 17 = .ok (.if_icmp .lt 5, 3) := by decide +kernel
theorem dJ2_indexOf_4cfef_20 : decode cJ2_indexOf_4cfef 20 = .ok (.iconst (-1), 1) := by decide +kernel
theorem dJ2_indexOf_4cfef_21 : decode cJ2_indexOf_4cfef 21 = .ok (.ireturn, 1) := by decide +kernel
theorem dJ2_indexOf_4cfef_22 : decode cJ2_indexOf_4cfef 22 = .ok (.iload_n 1, 1) := by decide +kernel
theorem dJ2_indexOf_4cfef_23 : decode cJ2_indexOf_4cfef 23 = .ok (.ldc 227, 2) := by decide +kernel
theorem dJ2_indexOf_4cfef_25 : decode cJ2_indexOf_4cfef 25 = .ok (.if_icmp .ge 11, 3) := by decide +kernel
theorem dJ2_indexOf_4cfef_28 : decode cJ2_indexOf_4cfef 28 = .ok (.aload_n 0, 1) := by decide +kernel
theorem dJ2_indexOf_4cfef_29 : decode cJ2_indexOf_4cfef 29 = .ok (.iload_n 1, 1) := by decide +kernel
theorem dJ2_indexOf_4cfef_30 : decode cJ2_indexOf_4cfef 30 = .ok (.iload_n 2, 1) := by decide +kernel
theorem dJ2_indexOf_4cfef_31 : decode cJ2_indexOf_4cfef 31 = .ok (.iload_n 3, 1) := by decide +kernel
theorem dJ2_indexOf_4cfef_32 : decode cJ2_indexOf_4cfef 32 = .ok (.invokestatic 228, 3) := by decide +kernel
theorem dJ2_indexOf_4cfef_35 : decode cJ2_indexOf_4cfef 35 = .ok (.ireturn, 1) := by decide +kernel
theorem dJ2_indexOf_4cfef_36 : decode cJ2_indexOf_4cfef 36 = .ok (.aload_n 0, 1) := by decide +kernel
theorem dJ2_indexOf_4cfef_37 : decode cJ2_indexOf_4cfef 37 = .ok (.iload_n 1, 1) := by decide +kernel
theorem dJ2_indexOf_4cfef_38 : decode cJ2_indexOf_4cfef 38 = .ok (.iload_n 2, 1) := by decide +kernel
theorem dJ2_indexOf_4cfef_39 : decode cJ2_indexOf_4cfef 39 = .ok (.iload_n 3, 1) := by decide +kernel
theorem dJ2_indexOf_4cfef_40 : decode cJ2_indexOf_4cfef 40 = .ok (.invokestatic 232, 3) := by decide +kernel
theorem dJ2_indexOf_4cfef_43 : decode cJ2_indexOf_4cfef 43 = .ok (.ireturn, 1) := by decide +kernel
theorem dJ2_indexOfChar_4cfef_0 : decode cJ2_indexOfChar_4cfef 0 = .ok (.iload_n 2, 1) := by decide +kernel
theorem dJ2_indexOfChar_4cfef_1 : decode cJ2_indexOfChar_4cfef 1 = .ok (.iload_n 3, 1) := by decide +kernel
theorem dJ2_indexOfChar_4cfef_2 : decode cJ2_indexOfChar_4cfef 2 = .ok (.aload_n 0, 1) := by decide +kernel
theorem dJ2_indexOfChar_4cfef_3 : decode cJ2_indexOfChar_4cfef 3 = .ok (.invokestatic 96, 3) := by decide +kernel
theorem dJ2_indexOfChar_4cfef_6 : decode cJ2_indexOfChar_4cfef 6 = .ok (.aload_n 0, 1) := by decide +kernel
theorem dJ2_indexOfChar_4cfef_7 : decode cJ2_indexOfChar_4cfef 7 = .ok (.iload_n 1, 1) := by decide +kernel
theorem dJ2_indexOfChar_4cfef_8 : decode cJ2_indexOfChar_4cfef 8 = .ok (.iload_n 2, 1) := by decide +kernel
theorem dJ2_indexOfChar_4cfef_9 : decode cJ2_indexOfChar_4cfef 9 = .ok (.iload_n 3, 1) := by decide +kernel
theorem dJ2_indexOfChar_4cfef_10 : decode cJ2_indexOfChar_4cfef 10 = .ok (.invokestatic 244, 3) := by decide +kernel
theorem dJ2_indexOfChar_4cfef_13 : decode cJ2_indexOfChar_4cfef 13 = .ok (.ireturn, 1) := by decide +kernel
theorem dJ2_indexOfCharUnsafe_4cfef_0 : decode cJ2_indexOfCharUnsafe_4cfef 0 = .ok (.iload_n 2, 1) := by decide +kernel
theorem dJ2_indexOfCharUnsafe_4cfef_1 : decode cJ2_indexOfCharUnsafe_4cfef 1 = .ok (.istore 4, 2) := by decide +kernel
theorem dJ2_indexOfCharUnsafe_4cfef_3 : decode cJ2_indexOfCharUnsafe_4cfef 3 = .ok (.iload 4, 2) := by decide +kernel
theorem dJ2_indexOfCharUnsafe_4cfef_5 : decode cJ2_indexOfCharUnsafe_4cfef 5 = .ok (.iload_n 3, 1) := by decide +kernel
theorem dJ2_indexOfCharUnsafe_4cfef_6 : decode cJ2_indexOfCharUnsafe_4cfef 6 = .ok (.if_icmp .ge 22, 3) := by decide +kernel
theorem dJ2_indexOfCharUnsafe_4cfef_9 : decode cJ2_indexOfCharUnsafe_4cfef 9 = .ok (.aload_n 0, 1) := by decide +kernel
theorem dJ2_indexOfCharUnsafe_4cfef_10 : decode cJ2_indexOfCharUnsafe_4cfef 10 = .ok (.iload 4, 2) := by decide +kernel
theorem dJ2_indexOfCharUnsafe_4cfef_12 : decode cJ2_indexOfCharUnsafe_4cfef 12 = .ok (.invokestatic 71, 3) := by decide +kernel
theorem dJ2_indexOfCharUnsafe_4cfef_15 : decode cJ2_indexOfCharUnsafe_4cfef 15 = .ok (.iload_n 1, 1) := by decide +kernel
theorem dJ2_indexOfCharUnsafe_4cfef_16 : decode cJ2_indexOfCharUnsafe_4cfef 16 = .ok (.if_icmp .ne 6, 3) := by decide +kernel
theorem dJ2_indexOfCharUnsafe_4cfef_19 : decode cJ2_indexOfCharUnsafe_4cfef 19 = .ok (.iload 4, 2) := by decide +kernel
theorem dJ2_indexOfCharUnsafe_4cfef_21 : decode cJ2_indexOfCharUnsafe_4cfef 21 = .ok (.ireturn, 1) := by decide +kernel
theorem dJ2_indexOfCharUnsafe_4cfef_22 : decode cJ2_indexOfCharUnsafe_4cfef 22 = .ok (.iinc 4 1, 3) := by decide +kernel
theorem dJ2_indexOfCharUnsafe_4cfef_25 : decode cJ2_indexOfCharUnsafe_4cfef 25 = .ok (.goto (-22), 3) := by decide +kernel
theorem dJ2_indexOfCharUnsafe_4cfef_28 : decode cJ2_indexOfCharUnsafe_4cfef 28 = .ok (.iconst (-1), 1) := by decide +kernel
theorem dJ2_indexOfCharUnsafe_4cfef_29 : decode cJ2_indexOfCharUnsafe_4cfef 29 = .ok (.ireturn, 1) := by decide +kernel
theorem dJ2_indexOfSupplementary_4cfef_0 : decode cJ2_indexOfSupplementary_4cfef 0 = .ok (.iload_n 1, 1) := by decide +kernel
theorem dJ2_indexOfSupplementary_4cfef_1 : decode cJ2_indexOfSupplementary_4cfef 1 = .ok (.invokestatic 164, 3) := by decide +kernel
theorem dJ2_indexOfSupplementary_4cfef_4 : decode cJ2_indexOfSupplementary_4cfef 4 = .ok (.ifCond .eq 65, 3) := by decide +kernel
theorem dJ2_indexOfSupplementary_4cfef_7 : decode cJ2_indexOfSupplementary_4cfef 7 = .ok (.iload_n 1, 1) := by decide +kernel
theorem dJ2_indexOfSupplementary_4cfef_8 : decode cJ2_indexOfSupplementary_4cfef 8 = .ok (.invokestatic 157, 3) := by decide +kernel
theorem dJ2_indexOfSupplementary_4cfef_11 : decode cJ2_indexOfSupplementary_4cfef 11 = .ok (.istore 4, 2) := by decide +kernel
theorem dJ2_indexOfSupplementary_4cfef_13 : decode cJ2_indexOfSupplementary_4cfef 13 = .ok (.iload_n 1, 1) := by decide +kernel
theorem dJ2_indexOfSupplementary_4cfef_14 : decode cJ2_indexOfSupplementary_4cfef 14 = .ok (.invokestatic 161, 3) := by decide +kernel
theorem dJ2_indexOfSupplementary_4cfef_17 : decode cJ2_indexOfSupplementary_4cfef 17 = .ok (.istore 5, 2) := by decide +kernel
theorem dJ2_indexOfSupplementary_4cfef_19 : decode cJ2_indexOfSupplementary_4cfef 19 = .ok (.iload_n 2, 1) := by decide +kernel
theorem dJ2_indexOfSupplementary_4cfef_20 : decode cJ2_indexOfSupplementary_4cfef 20 = .ok (.iload_n 3, 1) := by decide +kernel
theorem dJ2_indexOfSupplementary_4cfef_21 : decode cJ2_indexOfSupplementary_4cfef 21 = .ok (.aload_n 0, 1) := by decide +kernel
theorem dJ2_indexOfSupplementary_4cfef_22 : decode cJ2_indexOfSupplementary_4cfef 22 = .ok (.invokestatic 96, 3) := by decide +kernel
theorem dJ2_indexOfSupplementary_4cfef_25 : decode cJ2_indexOfSupplementary_4cfef 25 = .ok (.iload_n 2, 1) := by decide +kernel
theorem dJ2_indexOfSupplementary_4cfef_26 : decode cJ2_indexOfSupplementary_4cfef 26 = .ok (.istore 6, 2) := by decide +kernel
theorem dJ2_indexOfSupplementary_4cfef_28 : decode cJ2_indexOfSupplementary_4cfef 28 = .ok (.iload 6, 2) := by decide +kernel
theorem dJ2_indexOfSupplementary_4cfef_30 : decode cJ2_indexOfSupplementary_4cfef 30 = .ok (.iload_n 3, 1) := by decide +kernel
theorem dJ2_indexOfSupplementary_4cfef_31 : decode cJ2_indexOfSupplementary_4cfef 31 = .ok (.iconst 1, 1) := by decide +kernel
theorem dJ2_indexOfSupplementary_4cfef_32 : decode cJ2_indexOfSupplementary_4cfef 32 = .ok (.isub, 1) := by decide +kernel
theorem dJ2_indexOfSupplementary_4cfef_33 : decode cJ2_indexOfSupplementary_4cfef 33 = .ok (.if_icmp .ge 36, 3) := by decide +kernel
theorem dJ2_indexOfSupplementary_4cfef_36 : decode cJ2_indexOfSupplementary_4cfef 36 = .ok (.aload_n 0, 1) := by decide +kernel
theorem dJ2_indexOfSupplementary_4cfef_37 : decode cJ2_indexOfSupplementary_4cfef 37 = .ok (.iload 6, 2) := by decide +kernel
theorem dJ2_indexOfSupplementary_4cfef_39 : decode cJ2_indexOfSupplementary_4cfef 39 = .ok (.invokestatic 71, 3) := by decide +kernel
theorem dJ2_indexOfSupplementary_4cfef_42 : decode cJ2_indexOfSupplementary_4cfef 42 = .ok (.iload 4, 2) := by decide +kernel
theorem dJ2_indexOfSupplementary_4cfef_44 : decode cJ2_indexOfSupplementary_4cfef 44 = .ok (.if_icmp .ne 19, 3) := by decide +kernel
theorem dJ2_indexOfSupplementary_4cfef_47 : decode cJ2_indexOfSupplementary_4cfef 47 = .ok (.aload_n 0, 1) := by decide +kernel
theorem dJ2_indexOfSupplementary_4cfef_48 : decode cJ2_indexOfSupplementary_4cfef 48 = .ok (.iload 6, 2) := by decide +kernel
theorem dJ2_indexOfSupplementary_4cfef_50 : decode cJ2_indexOfSupplementary_4cfef 50 = .ok (.iconst 1, 1) := by decide +kernel
theorem dJ2_indexOfSupplementary_4cfef_51 : decode cJ2_indexOfSupplementary_4cfef 51 = .ok (.iadd, 1) := by decide +kernel
theorem dJ2_indexOfSupplementary_4cfef_52 : decode cJ2_indexOfSupplementary_4cfef 52 = .ok (.invokestatic 71, 3) := by decide +kernel
theorem dJ2_indexOfSupplementary_4cfef_55 : decode cJ2_indexOfSupplementary_4cfef 55 = .ok (.iload 5, 2) := by decide +kernel
theorem dJ2_indexOfSupplementary_4cfef_57 : decode cJ2_indexOfSupplementary_4cfef 57 = .ok (.if_icmp .ne 6, 3) := by decide +kernel
theorem dJ2_indexOfSupplementary_4cfef_60 : decode cJ2_indexOfSupplementary_4cfef 60 = .ok (.iload 6, 2) := by decide +kernel
theorem dJ2_indexOfSupplementary_4cfef_62 : decode cJ2_indexOfSupplementary_4cfef 62 = .ok (.ireturn, 1) := by decide +kernel
theorem dJ2_indexOfSupplementary_4cfef_63 : decode cJ2_indexOfSupplementary_4cfef 63 = .ok (.iinc 6 1, 3) := by decide +kernel
theorem dJ2_indexOfSupplementary_4cfef_66 : decode cJ2_indexOfSupplementary_4cfef 66 = .ok (.goto (-38), 3) := by decide +kernel
theorem dJ2_indexOfSupplementary_4cfef_69 : decode cJ2_indexOfSupplementary_4cfef 69 = .ok (.iconst (-1), 1) := by decide +kernel
theorem dJ2_indexOfSupplementary_4cfef_70 : decode cJ2_indexOfSupplementary_4cfef 70 = .ok (.ireturn, 1) := by decide +kernel
theorem dJ2_charAt_3b067_0 : decode cJ2_charAt_3b067 0 = .ok (.iload_n 1, 1) := by decide +kernel
theorem dJ2_charAt_3b067_1 : decode cJ2_charAt_3b067 1 = .ok (.aload_n 0, 1) := by decide +kernel
theorem dJ2_charAt_3b067_2 : decode cJ2_charAt_3b067 2 = .ok (.invokestatic 67, 3) := by decide +kernel
theorem dJ2_charAt_3b067_5 : decode cJ2_charAt_3b067 5 = .ok (.aload_n 0, 1) := by decide +kernel
theorem dJ2_charAt_3b067_6 : decode cJ2_charAt_3b067 6 = .ok (.iload_n 1, 1) := by decide +kernel
theorem dJ2_charAt_3b067_7 : decode cJ2_charAt_3b067 7 = .ok (.invokestatic 71, 3) := by decide +kernel
theorem dJ2_charAt_3b067_10 : decode cJ2_charAt_3b067 10 = .ok (.ireturn, 1) := by decide +kernel
theorem dJ2_checkIndex_2214a_0 : decode cJ2_checkIndex_2214a 0 = .ok (.iload_n 0, 1) := by decide +kernel
theorem dJ2_checkIndex_2214a_1 : decode cJ2_checkIndex_2214a 1 = .ok (.aload_n 1, 1) := by decide +kernel
theorem dJ2_checkIndex_2214a_2 : decode cJ2_checkIndex_2214a 2 = .ok (.invokestatic 48, 3) := by decide +kernel
theorem dJ2_checkIndex_2214a_5 : decode cJ2_checkIndex_2214a 5 = .ok (.invokestatic 414, 3) := by decide +kernel
theorem dJ2_checkIndex_2214a_8 : decode cJ2_checkIndex_2214a 8 = .ok (.return_, 1) := by decide +kernel
theorem dJ2_checkBoundsBeginEnd_d044e_0 : decode cJ2_checkBoundsBeginEnd_d044e 0 = .ok (.iload_n 0, 1) := by decide +kernel
theorem dJ2_checkBoundsBeginEnd_d044e_1 : decode cJ2_checkBoundsBeginEnd_d044e 1 = .ok (.iload_n 1, 1) := by decide +kernel
theorem dJ2_checkBoundsBeginEnd_d044e_2 : decode cJ2_checkBoundsBeginEnd_d044e 2 = .ok (.aload_n 2, 1) := by decide +kernel
theorem dJ2_checkBoundsBeginEnd_d044e_3 : decode cJ2_checkBoundsBeginEnd_d044e 3 = .ok (.invokestatic 48, 3) := by decide +kernel
theorem dJ2_checkBoundsBeginEnd_d044e_6 : decode cJ2_checkBoundsBeginEnd_d044e 6 = .ok (.invokestatic 241, 3) := by decide +kernel
theorem dJ2_checkBoundsBeginEnd_d044e_9 : decode cJ2_checkBoundsBeginEnd_d044e 9 = .ok (.return_, 1) := by decide +kernel
theorem dJ7_fill_d0a16_0 : decode cJ7_fill_d0a16 0 = .ok (.iconst 0, 1) := by decide +kernel
theorem dJ7_fill_d0a16_1 : decode cJ7_fill_d0a16 1 = .ok (.istore_n 3, 1) := by decide +kernel
theorem dJ7_fill_d0a16_2 : decode cJ7_fill_d0a16 2 = .ok (.aload_n 0, 1) := by decide +kernel
theorem dJ7_fill_d0a16_3 : decode cJ7_fill_d0a16 3 = .ok (.arraylength, 1) := by decide +kernel
theorem dJ7_fill_d0a16_4 : decode cJ7_fill_d0a16 4 = .ok (.istore 4, 2) := by decide +kernel
theorem dJ7_fill_d0a16_6 : decode cJ7_fill_d0a16 6 = .ok (.iload_n 3, 1) := by decide +kernel
theorem dJ7_fill_d0a16_7 : decode cJ7_fill_d0a16 7 = .ok (.iload 4, 2) := by decide +kernel
theorem dJ7_fill_d0a16_9 : decode cJ7_fill_d0a16 9 = .ok (.if_icmp .ge 13, 3) := by decide +kernel
theorem dJ7_fill_d0a16_12 : decode cJ7_fill_d0a16 12 = .ok (.aload_n 0, 1) := by decide +kernel
theorem dJ7_fill_d0a16_13 : decode cJ7_fill_d0a16 13 = .ok (.iload_n 3, 1) := by decide +kernel
theorem dJ7_fill_d0a16_14 : decode cJ7_fill_d0a16 14 = .ok (.lload_n 1, 1) := by decide +kernel
theorem dJ7_fill_d0a16_15 : decode cJ7_fill_d0a16 15 = .ok (.lastore, 1) := by decide +kernel
theorem dJ7_fill_d0a16_16 : decode cJ7_fill_d0a16 16 = .ok (.iinc 3 1, 3) := by decide +kernel
theorem dJ7_fill_d0a16_19 : decode cJ7_fill_d0a16 19 = .ok (.goto (-13), 3) := by decide +kernel
theorem dJ7_fill_d0a16_22 : decode cJ7_fill_d0a16 22 = .ok (.return_, 1) := by decide +kernel
theorem dJ3_checkIndex_8e157_0 : decode cJ3_checkIndex_8e157 0 = .ok (.iload_n 0, 1) := by decide +kernel
theorem dJ3_checkIndex_8e157_1 : decode cJ3_checkIndex_8e157 1 = .ok (.ifCond .lt 8, 3) := by decide +kernel
theorem dJ3_checkIndex_8e157_4 : decode cJ3_checkIndex_8e157 4 = .ok (.iload_n 0, 1) := by decide +kernel
theorem dJ3_checkIndex_8e157_5 : decode cJ3_checkIndex_8e157 5 = .ok (.iload_n 1, 1) := by decide +kernel
theorem dJ3_checkIndex_8e157_6 : decode cJ3_checkIndex_8e157 6 = .ok (.if_icmp .lt 10, 3) := by decide +kernel
theorem dJ3_checkIndex_8e157_9 : decode cJ3_checkIndex_8e157 9 = .ok (.aload_n 2, 1) := by decide +kernel
theorem dJ3_checkIndex_8e157_10 : decode cJ3_checkIndex_8e157 10 = .ok (.iload_n 0, 1) := by decide +kernel
theorem dJ3_checkIndex_8e157_11 : decode cJ3_checkIndex_8e157 11 = .ok (.iload_n 1, 1) := by decide +kernel
theorem dJ3_checkIndex_8e157_12 : decode cJ3_checkIndex_8e157 12 = .ok (.invokestatic 95, 3) := by decide +kernel
theorem dJ3_checkIndex_8e157_15 : decode cJ3_checkIndex_8e157 15 = .ok (.athrow, 1) := by decide +kernel
theorem dJ3_checkIndex_8e157_16 : decode cJ3_checkIndex_8e157 16 = .ok (.iload_n 0, 1) := by decide +kernel
theorem dJ3_checkIndex_8e157_17 : decode cJ3_checkIndex_8e157 17 = .ok (.ireturn, 1) := by decide +kernel
theorem dJ3_checkFromToIndex_8c36e_0 : decode cJ3_checkFromToIndex_8c36e 0 = .ok (.iload_n 0, 1) := by decide +kernel
theorem dJ3_checkFromToIndex_8c36e_1 : decode cJ3_checkFromToIndex_8c36e 1 = .ok (.ifCond .lt 13, 3) := by decide +kernel
theorem dJ3_checkFromToIndex_8c36e_4 : decode cJ3_checkFromToIndex_8c36e 4 = .ok (.iload_n 0, 1) := by decide +kernel
theorem dJ3_checkFromToIndex_8c36e_5 : decode cJ3_checkFromToIndex_8c36e 5 = .ok (.iload_n 1, 1) := by decide +kernel
theorem dJ3_checkFromToIndex_8c36e_6 : decode cJ3_checkFromToIndex_8c36e 6 = .ok (.if_icmp .gt 8, 3) := by decide +kernel
theorem dJ3_checkFromToIndex_8c36e_9 : decode cJ3_checkFromToIndex_8c36e 9 = .ok (.iload_n 1, 1) := by decide +kernel
theorem dJ3_checkFromToIndex_8c36e_10 : decode cJ3_checkFromToIndex_8c36e 10 = .ok (.iload_n 2, 1) := by decide +kernel
theorem dJ3_checkFromToIndex_8c36e_11 : decode cJ3_checkFromToIndex_8c36e 11 = .ok (.if_icmp .le 11, 3) := by decide +kernel
theorem dJ3_checkFromToIndex_8c36e_14 : decode cJ3_checkFromToIndex_8c36e 14 = .ok (.aload_n 3, 1) := by decide +kernel
theorem dJ3_checkFromToIndex_8c36e_15 : decode cJ3_checkFromToIndex_8c36e 15 = .ok (.iload_n 0, 1) := by decide +kernel
theorem dJ3_checkFromToIndex_8c36e_16 : decode cJ3_checkFromToIndex_8c36e 16 = .ok (.iload_n 1, 1) := by decide +kernel
theorem dJ3_checkFromToIndex_8c36e_17 : decode cJ3_checkFromToIndex_8c36e 17 = .ok (.iload_n 2, 1) := by decide +kernel
theorem dJ3_checkFromToIndex_8c36e_18 : decode cJ3_checkFromToIndex_8c36e 18 = .ok (.invokestatic 99, 3) := by decide +kernel
theorem dJ3_checkFromToIndex_8c36e_21 : decode cJ3_checkFromToIndex_8c36e 21 = .ok (.athrow, 1) := by decide +kernel
theorem dJ3_checkFromToIndex_8c36e_22 : decode cJ3_checkFromToIndex_8c36e 22 = .ok (.iload_n 0, 1) := by decide +kernel
theorem dJ3_checkFromToIndex_8c36e_23 : decode cJ3_checkFromToIndex_8c36e 23 = .ok (.ireturn, 1) := by decide +kernel
theorem dL_wires_0 : decode cL_wires 0 = .ok (.aload_n 0, 1) := by decide +kernel
theorem dL_wires_1 : decode cL_wires 1 = .ok (.iload_n 1, 1) := by decide +kernel
theorem dL_wires_2 : decode cL_wires 2 = .ok (.invokevirtual 7, 3) := by decide +kernel
theorem dL_wires_5 : decode cL_wires 5 = .ok (.goto 6, 3) := by decide +kernel
theorem dL_wires_8 : decode cL_wires 8 = .ok (.astore_n 2, 1) := by decide +kernel
theorem dL_wires_9 : decode cL_wires 9 = .ok (.iconst 1, 1) := by decide +kernel
theorem dL_wires_10 : decode cL_wires 10 = .ok (.ireturn, 1) := by decide +kernel
theorem dL_wires_11 : decode cL_wires 11 = .ok (.iconst 0, 1) := by decide +kernel
theorem dL_wires_12 : decode cL_wires 12 = .ok (.ireturn, 1) := by decide +kernel
theorem dL_gate_0 : decode cL_gate 0 = .ok (.aload 6, 2) := by decide +kernel
theorem dL_gate_2 : decode cL_gate 2 = .ok (.iconst 0, 1) := by decide +kernel
theorem dL_gate_3 : decode cL_gate 3 = .ok (.aload_n 0, 1) := by decide +kernel
theorem dL_gate_4 : decode cL_gate 4 = .ok (.iload_n 1, 1) := by decide +kernel
theorem dL_gate_5 : decode cL_gate 5 = .ok (.iload_n 2, 1) := by decide +kernel
theorem dL_gate_6 : decode cL_gate 6 = .ok (.iload_n 3, 1) := by decide +kernel
theorem dL_gate_7 : decode cL_gate 7 = .ok (.iload 4, 2) := by decide +kernel
theorem dL_gate_9 : decode cL_gate 9 = .ok (.iload 5, 2) := by decide +kernel
theorem dL_gate_11 : decode cL_gate 11 = .ok (.invokevirtual 15, 3) := by decide +kernel
theorem dL_gate_14 : decode cL_gate 14 = .ok (.i2l, 1) := by decide +kernel
theorem dL_gate_15 : decode cL_gate 15 = .ok (.lastore, 1) := by decide +kernel
theorem dL_gate_16 : decode cL_gate 16 = .ok (.goto 11, 3) := by decide +kernel
theorem dL_gate_19 : decode cL_gate 19 = .ok (.astore 7, 2) := by decide +kernel
theorem dL_gate_21 : decode cL_gate 21 = .ok (.iconst 1, 1) := by decide +kernel
theorem dL_gate_22 : decode cL_gate 22 = .ok (.ireturn, 1) := by decide +kernel
theorem dL_gate_23 : decode cL_gate 23 = .ok (.astore 7, 2) := by decide +kernel
theorem dL_gate_25 : decode cL_gate 25 = .ok (.iconst 2, 1) := by decide +kernel
theorem dL_gate_26 : decode cL_gate 26 = .ok (.ireturn, 1) := by decide +kernel
theorem dL_gate_27 : decode cL_gate 27 = .ok (.iconst 0, 1) := by decide +kernel
theorem dL_gate_28 : decode cL_gate 28 = .ok (.ireturn, 1) := by decide +kernel
theorem dL_clear_0 : decode cL_clear 0 = .ok (.aload_n 0, 1) := by decide +kernel
theorem dL_clear_1 : decode cL_clear 1 = .ok (.iload_n 1, 1) := by decide +kernel
theorem dL_clear_2 : decode cL_clear 2 = .ok (.invokevirtual 21, 3) := by decide +kernel
theorem dL_clear_5 : decode cL_clear 5 = .ok (.goto 6, 3) := by decide +kernel
theorem dL_clear_8 : decode cL_clear 8 = .ok (.astore_n 2, 1) := by decide +kernel
theorem dL_clear_9 : decode cL_clear 9 = .ok (.iconst 1, 1) := by decide +kernel
theorem dL_clear_10 : decode cL_clear 10 = .ok (.ireturn, 1) := by decide +kernel
theorem dL_clear_11 : decode cL_clear 11 = .ok (.iconst 0, 1) := by decide +kernel
theorem dL_clear_12 : decode cL_clear 12 = .ok (.ireturn, 1) := by decide +kernel
theorem dL_append_0 : decode cL_append 0 = .ok (.aload_n 3, 1) := by decide +kernel
theorem dL_append_1 : decode cL_append 1 = .ok (.iconst 0, 1) := by decide +kernel
theorem dL_append_2 : decode cL_append 2 = .ok (.aload_n 0, 1) := by decide +kernel
theorem dL_append_3 : decode cL_append 3 = .ok (.iload_n 1, 1) := by decide +kernel
theorem dL_append_4 : decode cL_append 4 = .ok (.iload_n 2, 1) := by decide +kernel
theorem dL_append_5 : decode cL_append 5 = .ok (.invokevirtual 24, 3) := by decide +kernel
theorem dL_append_8 : decode cL_append 8 = .ok (.i2l, 1) := by decide +kernel
theorem dL_append_9 : decode cL_append 9 = .ok (.lastore, 1) := by decide +kernel
theorem dL_append_10 : decode cL_append 10 = .ok (.goto 11, 3) := by decide +kernel
theorem dL_append_13 : decode cL_append 13 = .ok (.astore 4, 2) := by decide +kernel
theorem dL_append_15 : decode cL_append 15 = .ok (.iconst 1, 1) := by decide +kernel
theorem dL_append_16 : decode cL_append 16 = .ok (.ireturn, 1) := by decide +kernel
theorem dL_append_17 : decode cL_append 17 = .ok (.astore 4, 2) := by decide +kernel
theorem dL_append_19 : decode cL_append 19 = .ok (.iconst 2, 1) := by decide +kernel
theorem dL_append_20 : decode cL_append 20 = .ok (.ireturn, 1) := by decide +kernel
theorem dL_append_21 : decode cL_append 21 = .ok (.iconst 0, 1) := by decide +kernel
theorem dL_append_22 : decode cL_append 22 = .ok (.ireturn, 1) := by decide +kernel
theorem dL_inverse_0 : decode cL_inverse 0 = .ok (.aload_n 2, 1) := by decide +kernel
theorem dL_inverse_1 : decode cL_inverse 1 = .ok (.iconst 0, 1) := by decide +kernel
theorem dL_inverse_2 : decode cL_inverse 2 = .ok (.aload_n 0, 1) := by decide +kernel
theorem dL_inverse_3 : decode cL_inverse 3 = .ok (.iload_n 1, 1) := by decide +kernel
theorem dL_inverse_4 : decode cL_inverse 4 = .ok (.invokevirtual 28, 3) := by decide +kernel
theorem dL_inverse_7 : decode cL_inverse 7 = .ok (.i2l, 1) := by decide +kernel
theorem dL_inverse_8 : decode cL_inverse 8 = .ok (.lastore, 1) := by decide +kernel
theorem dL_inverse_9 : decode cL_inverse 9 = .ok (.goto 9, 3) := by decide +kernel
theorem dL_inverse_12 : decode cL_inverse 12 = .ok (.astore_n 3, 1) := by decide +kernel
theorem dL_inverse_13 : decode cL_inverse 13 = .ok (.iconst 1, 1) := by decide +kernel
theorem dL_inverse_14 : decode cL_inverse 14 = .ok (.ireturn, 1) := by decide +kernel
theorem dL_inverse_15 : decode cL_inverse 15 = .ok (.astore_n 3, 1) := by decide +kernel
theorem dL_inverse_16 : decode cL_inverse 16 = .ok (.iconst 2, 1) := by decide +kernel
theorem dL_inverse_17 : decode cL_inverse 17 = .ok (.ireturn, 1) := by decide +kernel
theorem dL_inverse_18 : decode cL_inverse 18 = .ok (.iconst 0, 1) := by decide +kernel
theorem dL_inverse_19 : decode cL_inverse 19 = .ok (.ireturn, 1) := by decide +kernel
theorem dL_expand_0 : decode cL_expand 0 = .ok (.aload_n 2, 1) := by decide +kernel
theorem dL_expand_1 : decode cL_expand 1 = .ok (.iconst 0, 1) := by decide +kernel
theorem dL_expand_2 : decode cL_expand 2 = .ok (.aload_n 0, 1) := by decide +kernel
theorem dL_expand_3 : decode cL_expand 3 = .ok (.iload_n 1, 1) := by decide +kernel
theorem dL_expand_4 : decode cL_expand 4 = .ok (.invokevirtual 32, 3) := by decide +kernel
theorem dL_expand_7 : decode cL_expand 7 = .ok (.i2l, 1) := by decide +kernel
theorem dL_expand_8 : decode cL_expand 8 = .ok (.lastore, 1) := by decide +kernel
theorem dL_expand_9 : decode cL_expand 9 = .ok (.goto 9, 3) := by decide +kernel
theorem dL_expand_12 : decode cL_expand 12 = .ok (.astore_n 3, 1) := by decide +kernel
theorem dL_expand_13 : decode cL_expand 13 = .ok (.iconst 1, 1) := by decide +kernel
theorem dL_expand_14 : decode cL_expand 14 = .ok (.ireturn, 1) := by decide +kernel
theorem dL_expand_15 : decode cL_expand 15 = .ok (.astore_n 3, 1) := by decide +kernel
theorem dL_expand_16 : decode cL_expand 16 = .ok (.iconst 2, 1) := by decide +kernel
theorem dL_expand_17 : decode cL_expand 17 = .ok (.ireturn, 1) := by decide +kernel
theorem dL_expand_18 : decode cL_expand 18 = .ok (.iconst 0, 1) := by decide +kernel
theorem dL_expand_19 : decode cL_expand 19 = .ok (.ireturn, 1) := by decide +kernel
theorem dL_optimise_0 : decode cL_optimise 0 = .ok (.aload_n 2, 1) := by decide +kernel
theorem dL_optimise_1 : decode cL_optimise 1 = .ok (.iconst 0, 1) := by decide +kernel
theorem dL_optimise_2 : decode cL_optimise 2 = .ok (.aload_n 0, 1) := by decide +kernel
theorem dL_optimise_3 : decode cL_optimise 3 = .ok (.iload_n 1, 1) := by decide +kernel
theorem dL_optimise_4 : decode cL_optimise 4 = .ok (.invokevirtual 35, 3) := by decide +kernel
theorem dL_optimise_7 : decode cL_optimise 7 = .ok (.i2l, 1) := by decide +kernel
theorem dL_optimise_8 : decode cL_optimise 8 = .ok (.lastore, 1) := by decide +kernel
theorem dL_optimise_9 : decode cL_optimise 9 = .ok (.goto 6, 3) := by decide +kernel
theorem dL_optimise_12 : decode cL_optimise 12 = .ok (.astore_n 3, 1) := by decide +kernel
theorem dL_optimise_13 : decode cL_optimise 13 = .ok (.iconst 1, 1) := by decide +kernel
theorem dL_optimise_14 : decode cL_optimise 14 = .ok (.ireturn, 1) := by decide +kernel
theorem dL_optimise_15 : decode cL_optimise 15 = .ok (.iconst 0, 1) := by decide +kernel
theorem dL_optimise_16 : decode cL_optimise 16 = .ok (.ireturn, 1) := by decide +kernel
theorem dL_least_0 : decode cL_least 0 = .ok (.aload_n 2, 1) := by decide +kernel
theorem dL_least_1 : decode cL_least 1 = .ok (.iconst 0, 1) := by decide +kernel
theorem dL_least_2 : decode cL_least 2 = .ok (.aload_n 0, 1) := by decide +kernel
theorem dL_least_3 : decode cL_least 3 = .ok (.iload_n 1, 1) := by decide +kernel
theorem dL_least_4 : decode cL_least 4 = .ok (.invokevirtual 38, 3) := by decide +kernel
theorem dL_least_7 : decode cL_least 7 = .ok (.i2l, 1) := by decide +kernel
theorem dL_least_8 : decode cL_least 8 = .ok (.lastore, 1) := by decide +kernel
theorem dL_least_9 : decode cL_least 9 = .ok (.goto 9, 3) := by decide +kernel
theorem dL_least_12 : decode cL_least 12 = .ok (.astore_n 3, 1) := by decide +kernel
theorem dL_least_13 : decode cL_least 13 = .ok (.iconst 1, 1) := by decide +kernel
theorem dL_least_14 : decode cL_least 14 = .ok (.ireturn, 1) := by decide +kernel
theorem dL_least_15 : decode cL_least 15 = .ok (.astore_n 3, 1) := by decide +kernel
theorem dL_least_16 : decode cL_least 16 = .ok (.iconst 2, 1) := by decide +kernel
theorem dL_least_17 : decode cL_least 17 = .ok (.ireturn, 1) := by decide +kernel
theorem dL_least_18 : decode cL_least 18 = .ok (.iconst 0, 1) := by decide +kernel
theorem dL_least_19 : decode cL_least 19 = .ok (.ireturn, 1) := by decide +kernel
theorem dL_equal_0 : decode cL_equal 0 = .ok (.aload_n 3, 1) := by decide +kernel
theorem dL_equal_1 : decode cL_equal 1 = .ok (.iconst 0, 1) := by decide +kernel
theorem dL_equal_2 : decode cL_equal 2 = .ok (.aload_n 0, 1) := by decide +kernel
theorem dL_equal_3 : decode cL_equal 3 = .ok (.iload_n 1, 1) := by decide +kernel
theorem dL_equal_4 : decode cL_equal 4 = .ok (.iload_n 2, 1) := by decide +kernel
theorem dL_equal_5 : decode cL_equal 5 = .ok (.invokevirtual 41, 3) := by decide +kernel
theorem dL_equal_8 : decode cL_equal 8 = .ok (.i2l, 1) := by decide +kernel
theorem dL_equal_9 : decode cL_equal 9 = .ok (.lastore, 1) := by decide +kernel
theorem dL_equal_10 : decode cL_equal 10 = .ok (.goto 7, 3) := by decide +kernel
theorem dL_equal_13 : decode cL_equal 13 = .ok (.astore 4, 2) := by decide +kernel
theorem dL_equal_15 : decode cL_equal 15 = .ok (.iconst 1, 1) := by decide +kernel
theorem dL_equal_16 : decode cL_equal 16 = .ok (.ireturn, 1) := by decide +kernel
theorem dL_equal_17 : decode cL_equal 17 = .ok (.iconst 0, 1) := by decide +kernel
theorem dL_equal_18 : decode cL_equal 18 = .ok (.ireturn, 1) := by decide +kernel
theorem dL_differ_0 : decode cL_differ 0 = .ok (.aload_n 3, 1) := by decide +kernel
theorem dL_differ_1 : decode cL_differ 1 = .ok (.iconst 0, 1) := by decide +kernel
theorem dL_differ_2 : decode cL_differ 2 = .ok (.aload_n 0, 1) := by decide +kernel
theorem dL_differ_3 : decode cL_differ 3 = .ok (.iload_n 1, 1) := by decide +kernel
theorem dL_differ_4 : decode cL_differ 4 = .ok (.iload_n 2, 1) := by decide +kernel
theorem dL_differ_5 : decode cL_differ 5 = .ok (.invokevirtual 44, 3) := by decide +kernel
theorem dL_differ_8 : decode cL_differ 8 = .ok (.i2l, 1) := by decide +kernel
theorem dL_differ_9 : decode cL_differ 9 = .ok (.lastore, 1) := by decide +kernel
theorem dL_differ_10 : decode cL_differ 10 = .ok (.goto 7, 3) := by decide +kernel
theorem dL_differ_13 : decode cL_differ 13 = .ok (.astore 4, 2) := by decide +kernel
theorem dL_differ_15 : decode cL_differ 15 = .ok (.iconst 1, 1) := by decide +kernel
theorem dL_differ_16 : decode cL_differ 16 = .ok (.ireturn, 1) := by decide +kernel
theorem dL_differ_17 : decode cL_differ 17 = .ok (.iconst 0, 1) := by decide +kernel
theorem dL_differ_18 : decode cL_differ 18 = .ok (.ireturn, 1) := by decide +kernel
theorem dL_state_0 : decode cL_state 0 = .ok (.aload_n 2, 1) := by decide +kernel
theorem dL_state_1 : decode cL_state 1 = .ok (.iconst 0, 1) := by decide +kernel
theorem dL_state_2 : decode cL_state 2 = .ok (.aload_n 0, 1) := by decide +kernel
theorem dL_state_3 : decode cL_state 3 = .ok (.iload_n 1, 1) := by decide +kernel
theorem dL_state_4 : decode cL_state 4 = .ok (.invokevirtual 47, 3) := by decide +kernel
theorem dL_state_7 : decode cL_state 7 = .ok (.i2l, 1) := by decide +kernel
theorem dL_state_8 : decode cL_state 8 = .ok (.lastore, 1) := by decide +kernel
theorem dL_state_9 : decode cL_state 9 = .ok (.goto 6, 3) := by decide +kernel
theorem dL_state_12 : decode cL_state 12 = .ok (.astore_n 3, 1) := by decide +kernel
theorem dL_state_13 : decode cL_state 13 = .ok (.iconst 1, 1) := by decide +kernel
theorem dL_state_14 : decode cL_state 14 = .ok (.ireturn, 1) := by decide +kernel
theorem dL_state_15 : decode cL_state 15 = .ok (.iconst 0, 1) := by decide +kernel
theorem dL_state_16 : decode cL_state 16 = .ok (.ireturn, 1) := by decide +kernel
theorem dL_amplitude_0 : decode cL_amplitude 0 = .ok (.aload_n 3, 1) := by decide +kernel
theorem dL_amplitude_1 : decode cL_amplitude 1 = .ok (.iconst 0, 1) := by decide +kernel
theorem dL_amplitude_2 : decode cL_amplitude 2 = .ok (.aload_n 0, 1) := by decide +kernel
theorem dL_amplitude_3 : decode cL_amplitude 3 = .ok (.iload_n 1, 1) := by decide +kernel
theorem dL_amplitude_4 : decode cL_amplitude 4 = .ok (.iload_n 2, 1) := by decide +kernel
theorem dL_amplitude_5 : decode cL_amplitude 5 = .ok (.invokevirtual 50, 3) := by decide +kernel
theorem dL_amplitude_8 : decode cL_amplitude 8 = .ok (.lastore, 1) := by decide +kernel
theorem dL_amplitude_9 : decode cL_amplitude 9 = .ok (.goto 11, 3) := by decide +kernel
theorem dL_amplitude_12 : decode cL_amplitude 12 = .ok (.astore 4, 2) := by decide +kernel
theorem dL_amplitude_14 : decode cL_amplitude 14 = .ok (.iconst 1, 1) := by decide +kernel
theorem dL_amplitude_15 : decode cL_amplitude 15 = .ok (.ireturn, 1) := by decide +kernel
theorem dL_amplitude_16 : decode cL_amplitude 16 = .ok (.astore 4, 2) := by decide +kernel
theorem dL_amplitude_18 : decode cL_amplitude 18 = .ok (.iconst 2, 1) := by decide +kernel
theorem dL_amplitude_19 : decode cL_amplitude 19 = .ok (.ireturn, 1) := by decide +kernel
theorem dL_amplitude_20 : decode cL_amplitude 20 = .ok (.iconst 0, 1) := by decide +kernel
theorem dL_amplitude_21 : decode cL_amplitude 21 = .ok (.ireturn, 1) := by decide +kernel
theorem dL_weight_0 : decode cL_weight 0 = .ok (.aload 4, 2) := by decide +kernel
theorem dL_weight_2 : decode cL_weight 2 = .ok (.iconst 0, 1) := by decide +kernel
theorem dL_weight_3 : decode cL_weight 3 = .ok (.aload_n 0, 1) := by decide +kernel
theorem dL_weight_4 : decode cL_weight 4 = .ok (.iload_n 1, 1) := by decide +kernel
theorem dL_weight_5 : decode cL_weight 5 = .ok (.iload_n 2, 1) := by decide +kernel
theorem dL_weight_6 : decode cL_weight 6 = .ok (.iload_n 3, 1) := by decide +kernel
theorem dL_weight_7 : decode cL_weight 7 = .ok (.invokevirtual 56, 3) := by decide +kernel
theorem dL_weight_10 : decode cL_weight 10 = .ok (.lastore, 1) := by decide +kernel
theorem dL_weight_11 : decode cL_weight 11 = .ok (.goto 11, 3) := by decide +kernel
theorem dL_weight_14 : decode cL_weight 14 = .ok (.astore 5, 2) := by decide +kernel
theorem dL_weight_16 : decode cL_weight 16 = .ok (.iconst 1, 1) := by decide +kernel
theorem dL_weight_17 : decode cL_weight 17 = .ok (.ireturn, 1) := by decide +kernel
theorem dL_weight_18 : decode cL_weight 18 = .ok (.astore 5, 2) := by decide +kernel
theorem dL_weight_20 : decode cL_weight 20 = .ok (.iconst 2, 1) := by decide +kernel
theorem dL_weight_21 : decode cL_weight 21 = .ok (.ireturn, 1) := by decide +kernel
theorem dL_weight_22 : decode cL_weight 22 = .ok (.iconst 0, 1) := by decide +kernel
theorem dL_weight_23 : decode cL_weight 23 = .ok (.ireturn, 1) := by decide +kernel
theorem dL_measure_0 : decode cL_measure 0 = .ok (.aload_n 3, 1) := by decide +kernel
theorem dL_measure_1 : decode cL_measure 1 = .ok (.iconst 0, 1) := by decide +kernel
theorem dL_measure_2 : decode cL_measure 2 = .ok (.aload_n 0, 1) := by decide +kernel
theorem dL_measure_3 : decode cL_measure 3 = .ok (.iload_n 1, 1) := by decide +kernel
theorem dL_measure_4 : decode cL_measure 4 = .ok (.iload_n 2, 1) := by decide +kernel
theorem dL_measure_5 : decode cL_measure 5 = .ok (.invokevirtual 60, 3) := by decide +kernel
theorem dL_measure_8 : decode cL_measure 8 = .ok (.ifCond .eq 7, 3) := by decide +kernel
theorem dL_measure_11 : decode cL_measure 11 = .ok (.lconst 1, 1) := by decide +kernel
theorem dL_measure_12 : decode cL_measure 12 = .ok (.goto 4, 3) := by decide +kernel
theorem dL_measure_15 : decode cL_measure 15 = .ok (.lconst 0, 1) := by decide +kernel
theorem dL_measure_16 : decode cL_measure 16 = .ok (.lastore, 1) := by decide +kernel
theorem dL_measure_17 : decode cL_measure 17 = .ok (.goto 11, 3) := by decide +kernel
theorem dL_measure_20 : decode cL_measure 20 = .ok (.astore 4, 2) := by decide +kernel
theorem dL_measure_22 : decode cL_measure 22 = .ok (.iconst 1, 1) := by decide +kernel
theorem dL_measure_23 : decode cL_measure 23 = .ok (.ireturn, 1) := by decide +kernel
theorem dL_measure_24 : decode cL_measure 24 = .ok (.astore 4, 2) := by decide +kernel
theorem dL_measure_26 : decode cL_measure 26 = .ok (.iconst 2, 1) := by decide +kernel
theorem dL_measure_27 : decode cL_measure 27 = .ok (.ireturn, 1) := by decide +kernel
theorem dL_measure_28 : decode cL_measure 28 = .ok (.iconst 0, 1) := by decide +kernel
theorem dL_measure_29 : decode cL_measure 29 = .ok (.ireturn, 1) := by decide +kernel
theorem dL_row_0 : decode cL_row 0 = .ok (.aload_n 3, 1) := by decide +kernel
theorem dL_row_1 : decode cL_row 1 = .ok (.iconst 0, 1) := by decide +kernel
theorem dL_row_2 : decode cL_row 2 = .ok (.aload_n 0, 1) := by decide +kernel
theorem dL_row_3 : decode cL_row 3 = .ok (.iload_n 1, 1) := by decide +kernel
theorem dL_row_4 : decode cL_row 4 = .ok (.iload_n 2, 1) := by decide +kernel
theorem dL_row_5 : decode cL_row 5 = .ok (.invokevirtual 64, 3) := by decide +kernel
theorem dL_row_8 : decode cL_row 8 = .ok (.i2l, 1) := by decide +kernel
theorem dL_row_9 : decode cL_row 9 = .ok (.lastore, 1) := by decide +kernel
theorem dL_row_10 : decode cL_row 10 = .ok (.goto 11, 3) := by decide +kernel
theorem dL_row_13 : decode cL_row 13 = .ok (.astore 4, 2) := by decide +kernel
theorem dL_row_15 : decode cL_row 15 = .ok (.iconst 1, 1) := by decide +kernel
theorem dL_row_16 : decode cL_row 16 = .ok (.ireturn, 1) := by decide +kernel
theorem dL_row_17 : decode cL_row 17 = .ok (.astore 4, 2) := by decide +kernel
theorem dL_row_19 : decode cL_row 19 = .ok (.iconst 2, 1) := by decide +kernel
theorem dL_row_20 : decode cL_row 20 = .ok (.ireturn, 1) := by decide +kernel
theorem dL_row_21 : decode cL_row 21 = .ok (.iconst 0, 1) := by decide +kernel
theorem dL_row_22 : decode cL_row 22 = .ok (.ireturn, 1) := by decide +kernel
theorem dL_print_0 : decode cL_print 0 = .ok (.aload_n 2, 1) := by decide +kernel
theorem dL_print_1 : decode cL_print 1 = .ok (.iconst 0, 1) := by decide +kernel
theorem dL_print_2 : decode cL_print 2 = .ok (.aload_n 0, 1) := by decide +kernel
theorem dL_print_3 : decode cL_print 3 = .ok (.iload_n 1, 1) := by decide +kernel
theorem dL_print_4 : decode cL_print 4 = .ok (.invokevirtual 67, 3) := by decide +kernel
theorem dL_print_7 : decode cL_print 7 = .ok (.i2l, 1) := by decide +kernel
theorem dL_print_8 : decode cL_print 8 = .ok (.lastore, 1) := by decide +kernel
theorem dL_print_9 : decode cL_print 9 = .ok (.goto 6, 3) := by decide +kernel
theorem dL_print_12 : decode cL_print 12 = .ok (.astore_n 3, 1) := by decide +kernel
theorem dL_print_13 : decode cL_print 13 = .ok (.iconst 1, 1) := by decide +kernel
theorem dL_print_14 : decode cL_print 14 = .ok (.ireturn, 1) := by decide +kernel
theorem dL_print_15 : decode cL_print 15 = .ok (.iconst 0, 1) := by decide +kernel
theorem dL_print_16 : decode cL_print 16 = .ok (.ireturn, 1) := by decide +kernel
theorem dL_read_0 : decode cL_read 0 = .ok (.aload_n 2, 1) := by decide +kernel
theorem dL_read_1 : decode cL_read 1 = .ok (.iconst 0, 1) := by decide +kernel
theorem dL_read_2 : decode cL_read 2 = .ok (.aload_n 0, 1) := by decide +kernel
theorem dL_read_3 : decode cL_read 3 = .ok (.iload_n 1, 1) := by decide +kernel
theorem dL_read_4 : decode cL_read 4 = .ok (.invokevirtual 70, 3) := by decide +kernel
theorem dL_read_7 : decode cL_read 7 = .ok (.i2l, 1) := by decide +kernel
theorem dL_read_8 : decode cL_read 8 = .ok (.lastore, 1) := by decide +kernel
theorem dL_read_9 : decode cL_read 9 = .ok (.goto 6, 3) := by decide +kernel
theorem dL_read_12 : decode cL_read 12 = .ok (.astore_n 3, 1) := by decide +kernel
theorem dL_read_13 : decode cL_read 13 = .ok (.iconst 1, 1) := by decide +kernel
theorem dL_read_14 : decode cL_read 14 = .ok (.ireturn, 1) := by decide +kernel
theorem dL_read_15 : decode cL_read 15 = .ok (.iconst 0, 1) := by decide +kernel
theorem dL_read_16 : decode cL_read 16 = .ok (.ireturn, 1) := by decide +kernel
theorem dL_law_0 : decode cL_law 0 = .ok (.new 8, 3) := by decide +kernel
theorem dL_law_3 : decode cL_law 3 = .ok (.dup, 1) := by decide +kernel
theorem dL_law_4 : decode cL_law 4 = .ok (.invokespecial 73, 3) := by decide +kernel
theorem dL_law_7 : decode cL_law 7 = .ok (.astore_n 1, 1) := by decide +kernel
theorem dL_law_8 : decode cL_law 8 = .ok (.new 74, 3) := by decide +kernel
theorem dL_law_11 : decode cL_law 11 = .ok (.dup, 1) := by decide +kernel
theorem dL_law_12 : decode cL_law 12 = .ok (.invokespecial 76, 3) := by decide +kernel
theorem dL_law_15 : decode cL_law 15 = .ok (.astore_n 2, 1) := by decide +kernel
theorem dL_law_16 : decode cL_law 16 = .ok (.iconst 1, 1) := by decide +kernel
theorem dL_law_17 : decode cL_law 17 = .ok (.newarray .long, 2) := by decide +kernel
theorem dL_law_19 : decode cL_law 19 = .ok (.astore_n 3, 1) := by decide +kernel
theorem dL_law_20 : decode cL_law 20 = .ok (.iconst 0, 1) := by decide +kernel
theorem dL_law_21 : decode cL_law 21 = .ok (.istore 4, 2) := by decide +kernel
theorem dL_law_23 : decode cL_law 23 = .ok (.iload 4, 2) := by decide +kernel
theorem dL_law_25 : decode cL_law 25 = .ok (.aload_n 0, 1) := by decide +kernel
theorem dL_law_26 : decode cL_law 26 = .ok (.arraylength, 1) := by decide +kernel
theorem dL_law_27 : decode cL_law 27 = .ok (.bipush 6, 2) := by decide +kernel
theorem dL_law_29 : decode cL_law 29 = .ok (.isub, 1) := by decide +kernel
theorem dL_law_30 : decode cL_law 30 = .ok (.if_icmp .gt 1384, 3) := by decide +kernel
theorem dL_law_33 : decode cL_law 33 = .ok (.aload_n 0, 1) := by decide +kernel
theorem dL_law_34 : decode cL_law 34 = .ok (.iload 4, 2) := by decide +kernel
theorem dL_law_36 : decode cL_law 36 = .ok (.iaload, 1) := by decide +kernel
theorem dL_law_37 : decode cL_law 37 = .ok (.bipush 31, 2) := by decide +kernel
theorem dL_law_39 : decode cL_law 39 = .ok (.iand, 1) := by decide +kernel
theorem dL_law_40 : decode cL_law 40 = .ok (.tableswitch 1368 0 23 #[112, 148, 252, 277, 314, 350, 418, 474, 530, 586, 642, 710, 723, 791, 847, 914, 927, 1006, 1081, 1149, 1218, 1274, 1299, 1355], 112) := by decide +kernel
theorem dL_law_152 : decode cL_law 152 = .ok (.aload_n 1, 1) := by decide +kernel
theorem dL_law_153 : decode cL_law 153 = .ok (.aload_n 0, 1) := by decide +kernel
theorem dL_law_154 : decode cL_law 154 = .ok (.iload 4, 2) := by decide +kernel
theorem dL_law_156 : decode cL_law 156 = .ok (.iconst 1, 1) := by decide +kernel
theorem dL_law_157 : decode cL_law 157 = .ok (.iadd, 1) := by decide +kernel
theorem dL_law_158 : decode cL_law 158 = .ok (.iaload, 1) := by decide +kernel
theorem dL_law_159 : decode cL_law 159 = .ok (.invokestatic 77, 3) := by decide +kernel
theorem dL_law_162 : decode cL_law 162 = .ok (.istore 5, 2) := by decide +kernel
theorem dL_law_164 : decode cL_law 164 = .ok (.aload_n 2, 1) := by decide +kernel
theorem dL_law_165 : decode cL_law 165 = .ok (.aload_n 0, 1) := by decide +kernel
theorem dL_law_166 : decode cL_law 166 = .ok (.iload 4, 2) := by decide +kernel
theorem dL_law_168 : decode cL_law 168 = .ok (.iconst 1, 1) := by decide +kernel
theorem dL_law_169 : decode cL_law 169 = .ok (.iadd, 1) := by decide +kernel
theorem dL_law_170 : decode cL_law 170 = .ok (.iaload, 1) := by decide +kernel
theorem dL_law_171 : decode cL_law 171 = .ok (.invokevirtual 82, 3) := by decide +kernel
theorem dL_law_174 : decode cL_law 174 = .ok (.aload_n 2, 1) := by decide +kernel
theorem dL_law_175 : decode cL_law 175 = .ok (.invokevirtual 83, 3) := by decide +kernel
theorem dL_law_178 : decode cL_law 178 = .ok (.iload 5, 2) := by decide +kernel
theorem dL_law_180 : decode cL_law 180 = .ok (.if_icmp .eq 5, 3) := by decide +kernel
theorem dL_law_183 : decode cL_law 183 = .ok (.iconst 0, 1) := by decide +kernel
theorem dL_law_184 : decode cL_law 184 = .ok (.ireturn, 1) := by decide +kernel
theorem dL_law_185 : decode cL_law 185 = .ok (.goto 1223, 3) := by decide +kernel
theorem dL_law_188 : decode cL_law 188 = .ok (.aload_n 1, 1) := by decide +kernel
theorem dL_law_189 : decode cL_law 189 = .ok (.aload_n 0, 1) := by decide +kernel
theorem dL_law_190 : decode cL_law 190 = .ok (.iload 4, 2) := by decide +kernel
theorem dL_law_192 : decode cL_law 192 = .ok (.iconst 1, 1) := by decide +kernel
theorem dL_law_193 : decode cL_law 193 = .ok (.iadd, 1) := by decide +kernel
theorem dL_law_194 : decode cL_law 194 = .ok (.iaload, 1) := by decide +kernel
theorem dL_law_195 : decode cL_law 195 = .ok (.aload_n 0, 1) := by decide +kernel
theorem dL_law_196 : decode cL_law 196 = .ok (.iload 4, 2) := by decide +kernel
theorem dL_law_198 : decode cL_law 198 = .ok (.iconst 2, 1) := by decide +kernel
theorem dL_law_199 : decode cL_law 199 = .ok (.iadd, 1) := by decide +kernel
theorem dL_law_200 : decode cL_law 200 = .ok (.iaload, 1) := by decide +kernel
theorem dL_law_201 : decode cL_law 201 = .ok (.aload_n 0, 1) := by decide +kernel
theorem dL_law_202 : decode cL_law 202 = .ok (.iload 4, 2) := by decide +kernel
theorem dL_law_204 : decode cL_law 204 = .ok (.iconst 3, 1) := by decide +kernel
theorem dL_law_205 : decode cL_law 205 = .ok (.iadd, 1) := by decide +kernel
theorem dL_law_206 : decode cL_law 206 = .ok (.iaload, 1) := by decide +kernel
theorem dL_law_207 : decode cL_law 207 = .ok (.aload_n 0, 1) := by decide +kernel
theorem dL_law_208 : decode cL_law 208 = .ok (.iload 4, 2) := by decide +kernel
theorem dL_law_210 : decode cL_law 210 = .ok (.iconst 4, 1) := by decide +kernel
theorem dL_law_211 : decode cL_law 211 = .ok (.iadd, 1) := by decide +kernel
theorem dL_law_212 : decode cL_law 212 = .ok (.iaload, 1) := by decide +kernel
theorem dL_law_213 : decode cL_law 213 = .ok (.aload_n 0, 1) := by decide +kernel
theorem dL_law_214 : decode cL_law 214 = .ok (.iload 4, 2) := by decide +kernel
theorem dL_law_216 : decode cL_law 216 = .ok (.iconst 5, 1) := by decide +kernel
theorem dL_law_217 : decode cL_law 217 = .ok (.iadd, 1) := by decide +kernel
theorem dL_law_218 : decode cL_law 218 = .ok (.iaload, 1) := by decide +kernel
theorem dL_law_219 : decode cL_law 219 = .ok (.aload_n 3, 1) := by decide +kernel
theorem dL_law_220 : decode cL_law 220 = .ok (.invokestatic 87, 3) := by decide +kernel
theorem dL_law_223 : decode cL_law 223 = .ok (.istore 5, 2) := by decide +kernel
theorem dL_law_225 : decode cL_law 225 = .ok (.aload_n 2, 1) := by decide +kernel
theorem dL_law_226 : decode cL_law 226 = .ok (.aload_n 0, 1) := by decide +kernel
theorem dL_law_227 : decode cL_law 227 = .ok (.iload 4, 2) := by decide +kernel
theorem dL_law_229 : decode cL_law 229 = .ok (.iconst 1, 1) := by decide +kernel
theorem dL_law_230 : decode cL_law 230 = .ok (.iadd, 1) := by decide +kernel
theorem dL_law_231 : decode cL_law 231 = .ok (.iaload, 1) := by decide +kernel
theorem dL_law_232 : decode cL_law 232 = .ok (.aload_n 0, 1) := by decide +kernel
theorem dL_law_233 : decode cL_law 233 = .ok (.iload 4, 2) := by decide +kernel
theorem dL_law_235 : decode cL_law 235 = .ok (.iconst 2, 1) := by decide +kernel
theorem dL_law_236 : decode cL_law 236 = .ok (.iadd, 1) := by decide +kernel
theorem dL_law_237 : decode cL_law 237 = .ok (.iaload, 1) := by decide +kernel
theorem dL_law_238 : decode cL_law 238 = .ok (.aload_n 0, 1) := by decide +kernel
theorem dL_law_239 : decode cL_law 239 = .ok (.iload 4, 2) := by decide +kernel
theorem dL_law_241 : decode cL_law 241 = .ok (.iconst 3, 1) := by decide +kernel
theorem dL_law_242 : decode cL_law 242 = .ok (.iadd, 1) := by decide +kernel
theorem dL_law_243 : decode cL_law 243 = .ok (.iaload, 1) := by decide +kernel
theorem dL_law_244 : decode cL_law 244 = .ok (.aload_n 0, 1) := by decide +kernel
theorem dL_law_245 : decode cL_law 245 = .ok (.iload 4, 2) := by decide +kernel
theorem dL_law_247 : decode cL_law 247 = .ok (.iconst 4, 1) := by decide +kernel
theorem dL_law_248 : decode cL_law 248 = .ok (.iadd, 1) := by decide +kernel
theorem dL_law_249 : decode cL_law 249 = .ok (.iaload, 1) := by decide +kernel
theorem dL_law_250 : decode cL_law 250 = .ok (.aload_n 0, 1) := by decide +kernel
theorem dL_law_251 : decode cL_law 251 = .ok (.iload 4, 2) := by decide +kernel
theorem dL_law_253 : decode cL_law 253 = .ok (.iconst 5, 1) := by decide +kernel
theorem dL_law_254 : decode cL_law 254 = .ok (.iadd, 1) := by decide +kernel
theorem dL_law_255 : decode cL_law 255 = .ok (.iaload, 1) := by decide +kernel
theorem dL_law_256 : decode cL_law 256 = .ok (.invokevirtual 90, 3) := by decide +kernel
theorem dL_law_259 : decode cL_law 259 = .ok (.istore 6, 2) := by decide +kernel
theorem dL_law_261 : decode cL_law 261 = .ok (.aload_n 2, 1) := by decide +kernel
theorem dL_law_262 : decode cL_law 262 = .ok (.invokevirtual 83, 3) := by decide +kernel
theorem dL_law_265 : decode cL_law 265 = .ok (.iload 5, 2) := by decide +kernel
theorem dL_law_267 : decode cL_law 267 = .ok (.if_icmp .eq 5, 3) := by decide +kernel
theorem dL_law_270 : decode cL_law 270 = .ok (.iconst 0, 1) := by decide +kernel
theorem dL_law_271 : decode cL_law 271 = .ok (.ireturn, 1) := by decide +kernel
theorem dL_law_272 : decode cL_law 272 = .ok (.iload 5, 2) := by decide +kernel
theorem dL_law_274 : decode cL_law 274 = .ok (.ifCond .ne 15, 3) := by decide +kernel
theorem dL_law_277 : decode cL_law 277 = .ok (.aload_n 3, 1) := by decide +kernel
theorem dL_law_278 : decode cL_law 278 = .ok (.iconst 0, 1) := by decide +kernel
theorem dL_law_279 : decode cL_law 279 = .ok (.laload, 1) := by decide +kernel
theorem dL_law_280 : decode cL_law 280 = .ok (.iload 6, 2) := by decide +kernel
theorem dL_law_282 : decode cL_law 282 = .ok (.i2l, 1) := by decide +kernel
theorem dL_law_283 : decode cL_law 283 = .ok (.lcmp, 1) := by decide +kernel
theorem dL_law_284 : decode cL_law 284 = .ok (.ifCond .eq 5, 3) := by decide +kernel
theorem dL_law_287 : decode cL_law 287 = .ok (.iconst 0, 1) := by decide +kernel
theorem dL_law_288 : decode cL_law 288 = .ok (.ireturn, 1) := by decide +kernel
theorem dL_law_289 : decode cL_law 289 = .ok (.goto 1119, 3) := by decide +kernel
theorem dL_law_292 : decode cL_law 292 = .ok (.aload_n 1, 1) := by decide +kernel
theorem dL_law_293 : decode cL_law 293 = .ok (.aload_n 0, 1) := by decide +kernel
theorem dL_law_294 : decode cL_law 294 = .ok (.iload 4, 2) := by decide +kernel
theorem dL_law_296 : decode cL_law 296 = .ok (.iconst 1, 1) := by decide +kernel
theorem dL_law_297 : decode cL_law 297 = .ok (.iadd, 1) := by decide +kernel
theorem dL_law_298 : decode cL_law 298 = .ok (.iaload, 1) := by decide +kernel
theorem dL_law_299 : decode cL_law 299 = .ok (.invokevirtual 91, 3) := by decide +kernel
theorem dL_law_302 : decode cL_law 302 = .ok (.aload_n 2, 1) := by decide +kernel
theorem dL_law_303 : decode cL_law 303 = .ok (.aload_n 0, 1) := by decide +kernel
theorem dL_law_304 : decode cL_law 304 = .ok (.iload 4, 2) := by decide +kernel
theorem dL_law_306 : decode cL_law 306 = .ok (.iconst 1, 1) := by decide +kernel
theorem dL_law_307 : decode cL_law 307 = .ok (.iadd, 1) := by decide +kernel
theorem dL_law_308 : decode cL_law 308 = .ok (.iaload, 1) := by decide +kernel
theorem dL_law_309 : decode cL_law 309 = .ok (.invokevirtual 94, 3) := by decide +kernel
theorem dL_law_312 : decode cL_law 312 = .ok (.if_icmp .eq 1096, 3) := by decide +kernel
theorem dL_law_315 : decode cL_law 315 = .ok (.iconst 0, 1) := by decide +kernel
theorem dL_law_316 : decode cL_law 316 = .ok (.ireturn, 1) := by decide +kernel
theorem dL_law_317 : decode cL_law 317 = .ok (.aload_n 1, 1) := by decide +kernel
theorem dL_law_318 : decode cL_law 318 = .ok (.aload_n 0, 1) := by decide +kernel
theorem dL_law_319 : decode cL_law 319 = .ok (.iload 4, 2) := by decide +kernel
theorem dL_law_321 : decode cL_law 321 = .ok (.iconst 1, 1) := by decide +kernel
theorem dL_law_322 : decode cL_law 322 = .ok (.iadd, 1) := by decide +kernel
theorem dL_law_323 : decode cL_law 323 = .ok (.iaload, 1) := by decide +kernel
theorem dL_law_324 : decode cL_law 324 = .ok (.aload_n 0, 1) := by decide +kernel
theorem dL_law_325 : decode cL_law 325 = .ok (.iload 4, 2) := by decide +kernel
theorem dL_law_327 : decode cL_law 327 = .ok (.iconst 2, 1) := by decide +kernel
theorem dL_law_328 : decode cL_law 328 = .ok (.iadd, 1) := by decide +kernel
theorem dL_law_329 : decode cL_law 329 = .ok (.iaload, 1) := by decide +kernel
theorem dL_law_330 : decode cL_law 330 = .ok (.invokevirtual 95, 3) := by decide +kernel
theorem dL_law_333 : decode cL_law 333 = .ok (.aload_n 2, 1) := by decide +kernel
theorem dL_law_334 : decode cL_law 334 = .ok (.aload_n 0, 1) := by decide +kernel
theorem dL_law_335 : decode cL_law 335 = .ok (.iload 4, 2) := by decide +kernel
theorem dL_law_337 : decode cL_law 337 = .ok (.iconst 1, 1) := by decide +kernel
theorem dL_law_338 : decode cL_law 338 = .ok (.iadd, 1) := by decide +kernel
theorem dL_law_339 : decode cL_law 339 = .ok (.iaload, 1) := by decide +kernel
theorem dL_law_340 : decode cL_law 340 = .ok (.aload_n 0, 1) := by decide +kernel
theorem dL_law_341 : decode cL_law 341 = .ok (.iload 4, 2) := by decide +kernel
theorem dL_law_343 : decode cL_law 343 = .ok (.iconst 2, 1) := by decide +kernel
theorem dL_law_344 : decode cL_law 344 = .ok (.iadd, 1) := by decide +kernel
theorem dL_law_345 : decode cL_law 345 = .ok (.iaload, 1) := by decide +kernel
theorem dL_law_346 : decode cL_law 346 = .ok (.invokevirtual 98, 3) := by decide +kernel
theorem dL_law_349 : decode cL_law 349 = .ok (.if_icmp .eq 1059, 3) := by decide +kernel
theorem dL_law_352 : decode cL_law 352 = .ok (.iconst 0, 1) := by decide +kernel
theorem dL_law_353 : decode cL_law 353 = .ok (.ireturn, 1) := by decide +kernel
theorem dL_law_354 : decode cL_law 354 = .ok (.aload_n 1, 1) := by decide +kernel
theorem dL_law_355 : decode cL_law 355 = .ok (.aload_n 0, 1) := by decide +kernel
theorem dL_law_356 : decode cL_law 356 = .ok (.iload 4, 2) := by decide +kernel
theorem dL_law_358 : decode cL_law 358 = .ok (.iconst 1, 1) := by decide +kernel
theorem dL_law_359 : decode cL_law 359 = .ok (.iadd, 1) := by decide +kernel
theorem dL_law_360 : decode cL_law 360 = .ok (.iaload, 1) := by decide +kernel
theorem dL_law_361 : decode cL_law 361 = .ok (.invokestatic 99, 3) := by decide +kernel
theorem dL_law_364 : decode cL_law 364 = .ok (.istore 5, 2) := by decide +kernel
theorem dL_law_366 : decode cL_law 366 = .ok (.aload_n 2, 1) := by decide +kernel
theorem dL_law_367 : decode cL_law 367 = .ok (.aload_n 0, 1) := by decide +kernel
theorem dL_law_368 : decode cL_law 368 = .ok (.iload 4, 2) := by decide +kernel
theorem dL_law_370 : decode cL_law 370 = .ok (.iconst 1, 1) := by decide +kernel
theorem dL_law_371 : decode cL_law 371 = .ok (.iadd, 1) := by decide +kernel
theorem dL_law_372 : decode cL_law 372 = .ok (.iaload, 1) := by decide +kernel
theorem dL_law_373 : decode cL_law 373 = .ok (.invokevirtual 101, 3) := by decide +kernel
theorem dL_law_376 : decode cL_law 376 = .ok (.aload_n 2, 1) := by decide +kernel
theorem dL_law_377 : decode cL_law 377 = .ok (.invokevirtual 83, 3) := by decide +kernel
theorem dL_law_380 : decode cL_law 380 = .ok (.iload 5, 2) := by decide +kernel
theorem dL_law_382 : decode cL_law 382 = .ok (.if_icmp .eq 5, 3) := by decide +kernel
theorem dL_law_385 : decode cL_law 385 = .ok (.iconst 0, 1) := by decide +kernel
theorem dL_law_386 : decode cL_law 386 = .ok (.ireturn, 1) := by decide +kernel
theorem dL_law_387 : decode cL_law 387 = .ok (.goto 1021, 3) := by decide +kernel
theorem dL_law_390 : decode cL_law 390 = .ok (.aload_n 1, 1) := by decide +kernel
theorem dL_law_391 : decode cL_law 391 = .ok (.aload_n 0, 1) := by decide +kernel
theorem dL_law_392 : decode cL_law 392 = .ok (.iload 4, 2) := by decide +kernel
theorem dL_law_394 : decode cL_law 394 = .ok (.iconst 1, 1) := by decide +kernel
theorem dL_law_395 : decode cL_law 395 = .ok (.iadd, 1) := by decide +kernel
theorem dL_law_396 : decode cL_law 396 = .ok (.iaload, 1) := by decide +kernel
theorem dL_law_397 : decode cL_law 397 = .ok (.aload_n 0, 1) := by decide +kernel
theorem dL_law_398 : decode cL_law 398 = .ok (.iload 4, 2) := by decide +kernel
theorem dL_law_400 : decode cL_law 400 = .ok (.iconst 2, 1) := by decide +kernel
theorem dL_law_401 : decode cL_law 401 = .ok (.iadd, 1) := by decide +kernel
theorem dL_law_402 : decode cL_law 402 = .ok (.iaload, 1) := by decide +kernel
theorem dL_law_403 : decode cL_law 403 = .ok (.aload_n 3, 1) := by decide +kernel
theorem dL_law_404 : decode cL_law 404 = .ok (.invokestatic 102, 3) := by decide +kernel
theorem dL_law_407 : decode cL_law 407 = .ok (.istore 5, 2) := by decide +kernel
theorem dL_law_409 : decode cL_law 409 = .ok (.aload_n 2, 1) := by decide +kernel
theorem dL_law_410 : decode cL_law 410 = .ok (.aload_n 0, 1) := by decide +kernel
theorem dL_law_411 : decode cL_law 411 = .ok (.iload 4, 2) := by decide +kernel
theorem dL_law_413 : decode cL_law 413 = .ok (.iconst 1, 1) := by decide +kernel
theorem dL_law_414 : decode cL_law 414 = .ok (.iadd, 1) := by decide +kernel
theorem dL_law_415 : decode cL_law 415 = .ok (.iaload, 1) := by decide +kernel
theorem dL_law_416 : decode cL_law 416 = .ok (.aload_n 0, 1) := by decide +kernel
theorem dL_law_417 : decode cL_law 417 = .ok (.iload 4, 2) := by decide +kernel
theorem dL_law_419 : decode cL_law 419 = .ok (.iconst 2, 1) := by decide +kernel
theorem dL_law_420 : decode cL_law 420 = .ok (.iadd, 1) := by decide +kernel
theorem dL_law_421 : decode cL_law 421 = .ok (.iaload, 1) := by decide +kernel
theorem dL_law_422 : decode cL_law 422 = .ok (.invokevirtual 105, 3) := by decide +kernel
theorem dL_law_425 : decode cL_law 425 = .ok (.istore 6, 2) := by decide +kernel
theorem dL_law_427 : decode cL_law 427 = .ok (.aload_n 2, 1) := by decide +kernel
theorem dL_law_428 : decode cL_law 428 = .ok (.invokevirtual 83, 3) := by decide +kernel
theorem dL_law_431 : decode cL_law 431 = .ok (.iload 5, 2) := by decide +kernel
theorem dL_law_433 : decode cL_law 433 = .ok (.if_icmp .eq 5, 3) := by decide +kernel
theorem dL_law_436 : decode cL_law 436 = .ok (.iconst 0, 1) := by decide +kernel
theorem dL_law_437 : decode cL_law 437 = .ok (.ireturn, 1) := by decide +kernel
theorem dL_law_438 : decode cL_law 438 = .ok (.iload 5, 2) := by decide +kernel
theorem dL_law_440 : decode cL_law 440 = .ok (.ifCond .ne 15, 3) := by decide +kernel
theorem dL_law_443 : decode cL_law 443 = .ok (.aload_n 3, 1) := by decide +kernel
theorem dL_law_444 : decode cL_law 444 = .ok (.iconst 0, 1) := by decide +kernel
theorem dL_law_445 : decode cL_law 445 = .ok (.laload, 1) := by decide +kernel
theorem dL_law_446 : decode cL_law 446 = .ok (.iload 6, 2) := by decide +kernel
theorem dL_law_448 : decode cL_law 448 = .ok (.i2l, 1) := by decide +kernel
theorem dL_law_449 : decode cL_law 449 = .ok (.lcmp, 1) := by decide +kernel
theorem dL_law_450 : decode cL_law 450 = .ok (.ifCond .eq 5, 3) := by decide +kernel
theorem dL_law_453 : decode cL_law 453 = .ok (.iconst 0, 1) := by decide +kernel
theorem dL_law_454 : decode cL_law 454 = .ok (.ireturn, 1) := by decide +kernel
theorem dL_law_455 : decode cL_law 455 = .ok (.goto 953, 3) := by decide +kernel
theorem dL_law_458 : decode cL_law 458 = .ok (.aload_n 1, 1) := by decide +kernel
theorem dL_law_459 : decode cL_law 459 = .ok (.aload_n 0, 1) := by decide +kernel
theorem dL_law_460 : decode cL_law 460 = .ok (.iload 4, 2) := by decide +kernel
theorem dL_law_462 : decode cL_law 462 = .ok (.iconst 1, 1) := by decide +kernel
theorem dL_law_463 : decode cL_law 463 = .ok (.iadd, 1) := by decide +kernel
theorem dL_law_464 : decode cL_law 464 = .ok (.iaload, 1) := by decide +kernel
theorem dL_law_465 : decode cL_law 465 = .ok (.aload_n 3, 1) := by decide +kernel
theorem dL_law_466 : decode cL_law 466 = .ok (.invokestatic 106, 3) := by decide +kernel
theorem dL_law_469 : decode cL_law 469 = .ok (.istore 5, 2) := by decide +kernel
theorem dL_law_471 : decode cL_law 471 = .ok (.aload_n 2, 1) := by decide +kernel
theorem dL_law_472 : decode cL_law 472 = .ok (.aload_n 0, 1) := by decide +kernel
theorem dL_law_473 : decode cL_law 473 = .ok (.iload 4, 2) := by decide +kernel
theorem dL_law_475 : decode cL_law 475 = .ok (.iconst 1, 1) := by decide +kernel
theorem dL_law_476 : decode cL_law 476 = .ok (.iadd, 1) := by decide +kernel
theorem dL_law_477 : decode cL_law 477 = .ok (.iaload, 1) := by decide +kernel
theorem dL_law_478 : decode cL_law 478 = .ok (.invokevirtual 109, 3) := by decide +kernel
theorem dL_law_481 : decode cL_law 481 = .ok (.istore 6, 2) := by decide +kernel
theorem dL_law_483 : decode cL_law 483 = .ok (.aload_n 2, 1) := by decide +kernel
theorem dL_law_484 : decode cL_law 484 = .ok (.invokevirtual 83, 3) := by decide +kernel
theorem dL_law_487 : decode cL_law 487 = .ok (.iload 5, 2) := by decide +kernel
theorem dL_law_489 : decode cL_law 489 = .ok (.if_icmp .eq 5, 3) := by decide +kernel
theorem dL_law_492 : decode cL_law 492 = .ok (.iconst 0, 1) := by decide +kernel
theorem dL_law_493 : decode cL_law 493 = .ok (.ireturn, 1) := by decide +kernel
theorem dL_law_494 : decode cL_law 494 = .ok (.iload 5, 2) := by decide +kernel
theorem dL_law_496 : decode cL_law 496 = .ok (.ifCond .ne 15, 3) := by decide +kernel
theorem dL_law_499 : decode cL_law 499 = .ok (.aload_n 3, 1) := by decide +kernel
theorem dL_law_500 : decode cL_law 500 = .ok (.iconst 0, 1) := by decide +kernel
theorem dL_law_501 : decode cL_law 501 = .ok (.laload, 1) := by decide +kernel
theorem dL_law_502 : decode cL_law 502 = .ok (.iload 6, 2) := by decide +kernel
theorem dL_law_504 : decode cL_law 504 = .ok (.i2l, 1) := by decide +kernel
theorem dL_law_505 : decode cL_law 505 = .ok (.lcmp, 1) := by decide +kernel
theorem dL_law_506 : decode cL_law 506 = .ok (.ifCond .eq 5, 3) := by decide +kernel
theorem dL_law_509 : decode cL_law 509 = .ok (.iconst 0, 1) := by decide +kernel
theorem dL_law_510 : decode cL_law 510 = .ok (.ireturn, 1) := by decide +kernel
theorem dL_law_511 : decode cL_law 511 = .ok (.goto 897, 3) := by decide +kernel
theorem dL_law_514 : decode cL_law 514 = .ok (.aload_n 1, 1) := by decide +kernel
theorem dL_law_515 : decode cL_law 515 = .ok (.aload_n 0, 1) := by decide +kernel
theorem dL_law_516 : decode cL_law 516 = .ok (.iload 4, 2) := by decide +kernel
theorem dL_law_518 : decode cL_law 518 = .ok (.iconst 1, 1) := by decide +kernel
theorem dL_law_519 : decode cL_law 519 = .ok (.iadd, 1) := by decide +kernel
theorem dL_law_520 : decode cL_law 520 = .ok (.iaload, 1) := by decide +kernel
theorem dL_law_521 : decode cL_law 521 = .ok (.aload_n 3, 1) := by decide +kernel
theorem dL_law_522 : decode cL_law 522 = .ok (.invokestatic 110, 3) := by decide +kernel
theorem dL_law_525 : decode cL_law 525 = .ok (.istore 5, 2) := by decide +kernel
theorem dL_law_527 : decode cL_law 527 = .ok (.aload_n 2, 1) := by decide +kernel
theorem dL_law_528 : decode cL_law 528 = .ok (.aload_n 0, 1) := by decide +kernel
theorem dL_law_529 : decode cL_law 529 = .ok (.iload 4, 2) := by decide +kernel
theorem dL_law_531 : decode cL_law 531 = .ok (.iconst 1, 1) := by decide +kernel
theorem dL_law_532 : decode cL_law 532 = .ok (.iadd, 1) := by decide +kernel
theorem dL_law_533 : decode cL_law 533 = .ok (.iaload, 1) := by decide +kernel
theorem dL_law_534 : decode cL_law 534 = .ok (.invokevirtual 112, 3) := by decide +kernel
theorem dL_law_537 : decode cL_law 537 = .ok (.istore 6, 2) := by decide +kernel
theorem dL_law_539 : decode cL_law 539 = .ok (.aload_n 2, 1) := by decide +kernel
theorem dL_law_540 : decode cL_law 540 = .ok (.invokevirtual 83, 3) := by decide +kernel
theorem dL_law_543 : decode cL_law 543 = .ok (.iload 5, 2) := by decide +kernel
theorem dL_law_545 : decode cL_law 545 = .ok (.if_icmp .eq 5, 3) := by decide +kernel
theorem dL_law_548 : decode cL_law 548 = .ok (.iconst 0, 1) := by decide +kernel
theorem dL_law_549 : decode cL_law 549 = .ok (.ireturn, 1) := by decide +kernel
theorem dL_law_550 : decode cL_law 550 = .ok (.iload 5, 2) := by decide +kernel
theorem dL_law_552 : decode cL_law 552 = .ok (.ifCond .ne 15, 3) := by decide +kernel
theorem dL_law_555 : decode cL_law 555 = .ok (.aload_n 3, 1) := by decide +kernel
theorem dL_law_556 : decode cL_law 556 = .ok (.iconst 0, 1) := by decide +kernel
theorem dL_law_557 : decode cL_law 557 = .ok (.laload, 1) := by decide +kernel
theorem dL_law_558 : decode cL_law 558 = .ok (.iload 6, 2) := by decide +kernel
theorem dL_law_560 : decode cL_law 560 = .ok (.i2l, 1) := by decide +kernel
theorem dL_law_561 : decode cL_law 561 = .ok (.lcmp, 1) := by decide +kernel
theorem dL_law_562 : decode cL_law 562 = .ok (.ifCond .eq 5, 3) := by decide +kernel
theorem dL_law_565 : decode cL_law 565 = .ok (.iconst 0, 1) := by decide +kernel
theorem dL_law_566 : decode cL_law 566 = .ok (.ireturn, 1) := by decide +kernel
theorem dL_law_567 : decode cL_law 567 = .ok (.goto 841, 3) := by decide +kernel
theorem dL_law_570 : decode cL_law 570 = .ok (.aload_n 1, 1) := by decide +kernel
theorem dL_law_571 : decode cL_law 571 = .ok (.aload_n 0, 1) := by decide +kernel
theorem dL_law_572 : decode cL_law 572 = .ok (.iload 4, 2) := by decide +kernel
theorem dL_law_574 : decode cL_law 574 = .ok (.iconst 1, 1) := by decide +kernel
theorem dL_law_575 : decode cL_law 575 = .ok (.iadd, 1) := by decide +kernel
theorem dL_law_576 : decode cL_law 576 = .ok (.iaload, 1) := by decide +kernel
theorem dL_law_577 : decode cL_law 577 = .ok (.aload_n 3, 1) := by decide +kernel
theorem dL_law_578 : decode cL_law 578 = .ok (.invokestatic 113, 3) := by decide +kernel
theorem dL_law_581 : decode cL_law 581 = .ok (.istore 5, 2) := by decide +kernel
theorem dL_law_583 : decode cL_law 583 = .ok (.aload_n 2, 1) := by decide +kernel
theorem dL_law_584 : decode cL_law 584 = .ok (.aload_n 0, 1) := by decide +kernel
theorem dL_law_585 : decode cL_law 585 = .ok (.iload 4, 2) := by decide +kernel
theorem dL_law_587 : decode cL_law 587 = .ok (.iconst 1, 1) := by decide +kernel
theorem dL_law_588 : decode cL_law 588 = .ok (.iadd, 1) := by decide +kernel
theorem dL_law_589 : decode cL_law 589 = .ok (.iaload, 1) := by decide +kernel
theorem dL_law_590 : decode cL_law 590 = .ok (.invokevirtual 115, 3) := by decide +kernel
theorem dL_law_593 : decode cL_law 593 = .ok (.istore 6, 2) := by decide +kernel
theorem dL_law_595 : decode cL_law 595 = .ok (.aload_n 2, 1) := by decide +kernel
theorem dL_law_596 : decode cL_law 596 = .ok (.invokevirtual 83, 3) := by decide +kernel
theorem dL_law_599 : decode cL_law 599 = .ok (.iload 5, 2) := by decide +kernel
theorem dL_law_601 : decode cL_law 601 = .ok (.if_icmp .eq 5, 3) := by decide +kernel
theorem dL_law_604 : decode cL_law 604 = .ok (.iconst 0, 1) := by decide +kernel
theorem dL_law_605 : decode cL_law 605 = .ok (.ireturn, 1) := by decide +kernel
theorem dL_law_606 : decode cL_law 606 = .ok (.iload 5, 2) := by decide +kernel
theorem dL_law_608 : decode cL_law 608 = .ok (.ifCond .ne 15, 3) := by decide +kernel
theorem dL_law_611 : decode cL_law 611 = .ok (.aload_n 3, 1) := by decide +kernel
theorem dL_law_612 : decode cL_law 612 = .ok (.iconst 0, 1) := by decide +kernel
theorem dL_law_613 : decode cL_law 613 = .ok (.laload, 1) := by decide +kernel
theorem dL_law_614 : decode cL_law 614 = .ok (.iload 6, 2) := by decide +kernel
theorem dL_law_616 : decode cL_law 616 = .ok (.i2l, 1) := by decide +kernel
theorem dL_law_617 : decode cL_law 617 = .ok (.lcmp, 1) := by decide +kernel
theorem dL_law_618 : decode cL_law 618 = .ok (.ifCond .eq 5, 3) := by decide +kernel
theorem dL_law_621 : decode cL_law 621 = .ok (.iconst 0, 1) := by decide +kernel
theorem dL_law_622 : decode cL_law 622 = .ok (.ireturn, 1) := by decide +kernel
theorem dL_law_623 : decode cL_law 623 = .ok (.goto 785, 3) := by decide +kernel
theorem dL_law_626 : decode cL_law 626 = .ok (.aload_n 1, 1) := by decide +kernel
theorem dL_law_627 : decode cL_law 627 = .ok (.aload_n 0, 1) := by decide +kernel
theorem dL_law_628 : decode cL_law 628 = .ok (.iload 4, 2) := by decide +kernel
theorem dL_law_630 : decode cL_law 630 = .ok (.iconst 1, 1) := by decide +kernel
theorem dL_law_631 : decode cL_law 631 = .ok (.iadd, 1) := by decide +kernel
theorem dL_law_632 : decode cL_law 632 = .ok (.iaload, 1) := by decide +kernel
theorem dL_law_633 : decode cL_law 633 = .ok (.aload_n 3, 1) := by decide +kernel
theorem dL_law_634 : decode cL_law 634 = .ok (.invokestatic 116, 3) := by decide +kernel
theorem dL_law_637 : decode cL_law 637 = .ok (.istore 5, 2) := by decide +kernel
theorem dL_law_639 : decode cL_law 639 = .ok (.aload_n 2, 1) := by decide +kernel
theorem dL_law_640 : decode cL_law 640 = .ok (.aload_n 0, 1) := by decide +kernel
theorem dL_law_641 : decode cL_law 641 = .ok (.iload 4, 2) := by decide +kernel
theorem dL_law_643 : decode cL_law 643 = .ok (.iconst 1, 1) := by decide +kernel
theorem dL_law_644 : decode cL_law 644 = .ok (.iadd, 1) := by decide +kernel
theorem dL_law_645 : decode cL_law 645 = .ok (.iaload, 1) := by decide +kernel
theorem dL_law_646 : decode cL_law 646 = .ok (.invokevirtual 118, 3) := by decide +kernel
theorem dL_law_649 : decode cL_law 649 = .ok (.istore 6, 2) := by decide +kernel
theorem dL_law_651 : decode cL_law 651 = .ok (.aload_n 2, 1) := by decide +kernel
theorem dL_law_652 : decode cL_law 652 = .ok (.invokevirtual 83, 3) := by decide +kernel
theorem dL_law_655 : decode cL_law 655 = .ok (.iload 5, 2) := by decide +kernel
theorem dL_law_657 : decode cL_law 657 = .ok (.if_icmp .eq 5, 3) := by decide +kernel
theorem dL_law_660 : decode cL_law 660 = .ok (.iconst 0, 1) := by decide +kernel
theorem dL_law_661 : decode cL_law 661 = .ok (.ireturn, 1) := by decide +kernel
theorem dL_law_662 : decode cL_law 662 = .ok (.iload 5, 2) := by decide +kernel
theorem dL_law_664 : decode cL_law 664 = .ok (.ifCond .ne 15, 3) := by decide +kernel
theorem dL_law_667 : decode cL_law 667 = .ok (.aload_n 3, 1) := by decide +kernel
theorem dL_law_668 : decode cL_law 668 = .ok (.iconst 0, 1) := by decide +kernel
theorem dL_law_669 : decode cL_law 669 = .ok (.laload, 1) := by decide +kernel
theorem dL_law_670 : decode cL_law 670 = .ok (.iload 6, 2) := by decide +kernel
theorem dL_law_672 : decode cL_law 672 = .ok (.i2l, 1) := by decide +kernel
theorem dL_law_673 : decode cL_law 673 = .ok (.lcmp, 1) := by decide +kernel
theorem dL_law_674 : decode cL_law 674 = .ok (.ifCond .eq 5, 3) := by decide +kernel
theorem dL_law_677 : decode cL_law 677 = .ok (.iconst 0, 1) := by decide +kernel
theorem dL_law_678 : decode cL_law 678 = .ok (.ireturn, 1) := by decide +kernel
theorem dL_law_679 : decode cL_law 679 = .ok (.goto 729, 3) := by decide +kernel
theorem dL_law_682 : decode cL_law 682 = .ok (.aload_n 1, 1) := by decide +kernel
theorem dL_law_683 : decode cL_law 683 = .ok (.aload_n 0, 1) := by decide +kernel
theorem dL_law_684 : decode cL_law 684 = .ok (.iload 4, 2) := by decide +kernel
theorem dL_law_686 : decode cL_law 686 = .ok (.iconst 1, 1) := by decide +kernel
theorem dL_law_687 : decode cL_law 687 = .ok (.iadd, 1) := by decide +kernel
theorem dL_law_688 : decode cL_law 688 = .ok (.iaload, 1) := by decide +kernel
theorem dL_law_689 : decode cL_law 689 = .ok (.aload_n 0, 1) := by decide +kernel
theorem dL_law_690 : decode cL_law 690 = .ok (.iload 4, 2) := by decide +kernel
theorem dL_law_692 : decode cL_law 692 = .ok (.iconst 2, 1) := by decide +kernel
theorem dL_law_693 : decode cL_law 693 = .ok (.iadd, 1) := by decide +kernel
theorem dL_law_694 : decode cL_law 694 = .ok (.iaload, 1) := by decide +kernel
theorem dL_law_695 : decode cL_law 695 = .ok (.aload_n 3, 1) := by decide +kernel
theorem dL_law_696 : decode cL_law 696 = .ok (.invokestatic 119, 3) := by decide +kernel
theorem dL_law_699 : decode cL_law 699 = .ok (.istore 5, 2) := by decide +kernel
theorem dL_law_701 : decode cL_law 701 = .ok (.aload_n 2, 1) := by decide +kernel
theorem dL_law_702 : decode cL_law 702 = .ok (.aload_n 0, 1) := by decide +kernel
theorem dL_law_703 : decode cL_law 703 = .ok (.iload 4, 2) := by decide +kernel
theorem dL_law_705 : decode cL_law 705 = .ok (.iconst 1, 1) := by decide +kernel
theorem dL_law_706 : decode cL_law 706 = .ok (.iadd, 1) := by decide +kernel
theorem dL_law_707 : decode cL_law 707 = .ok (.iaload, 1) := by decide +kernel
theorem dL_law_708 : decode cL_law 708 = .ok (.aload_n 0, 1) := by decide +kernel
theorem dL_law_709 : decode cL_law 709 = .ok (.iload 4, 2) := by decide +kernel
theorem dL_law_711 : decode cL_law 711 = .ok (.iconst 2, 1) := by decide +kernel
theorem dL_law_712 : decode cL_law 712 = .ok (.iadd, 1) := by decide +kernel
theorem dL_law_713 : decode cL_law 713 = .ok (.iaload, 1) := by decide +kernel
theorem dL_law_714 : decode cL_law 714 = .ok (.invokevirtual 121, 3) := by decide +kernel
theorem dL_law_717 : decode cL_law 717 = .ok (.istore 6, 2) := by decide +kernel
theorem dL_law_719 : decode cL_law 719 = .ok (.aload_n 2, 1) := by decide +kernel
theorem dL_law_720 : decode cL_law 720 = .ok (.invokevirtual 83, 3) := by decide +kernel
theorem dL_law_723 : decode cL_law 723 = .ok (.iload 5, 2) := by decide +kernel
theorem dL_law_725 : decode cL_law 725 = .ok (.if_icmp .eq 5, 3) := by decide +kernel
theorem dL_law_728 : decode cL_law 728 = .ok (.iconst 0, 1) := by decide +kernel
theorem dL_law_729 : decode cL_law 729 = .ok (.ireturn, 1) := by decide +kernel
theorem dL_law_730 : decode cL_law 730 = .ok (.iload 5, 2) := by decide +kernel
theorem dL_law_732 : decode cL_law 732 = .ok (.ifCond .ne 15, 3) := by decide +kernel
theorem dL_law_735 : decode cL_law 735 = .ok (.aload_n 3, 1) := by decide +kernel
theorem dL_law_736 : decode cL_law 736 = .ok (.iconst 0, 1) := by decide +kernel
theorem dL_law_737 : decode cL_law 737 = .ok (.laload, 1) := by decide +kernel
theorem dL_law_738 : decode cL_law 738 = .ok (.iload 6, 2) := by decide +kernel
theorem dL_law_740 : decode cL_law 740 = .ok (.i2l, 1) := by decide +kernel
theorem dL_law_741 : decode cL_law 741 = .ok (.lcmp, 1) := by decide +kernel
theorem dL_law_742 : decode cL_law 742 = .ok (.ifCond .eq 5, 3) := by decide +kernel
theorem dL_law_745 : decode cL_law 745 = .ok (.iconst 0, 1) := by decide +kernel
theorem dL_law_746 : decode cL_law 746 = .ok (.ireturn, 1) := by decide +kernel
theorem dL_law_747 : decode cL_law 747 = .ok (.goto 661, 3) := by decide +kernel
theorem dL_law_750 : decode cL_law 750 = .ok (.aload_n 1, 1) := by decide +kernel
theorem dL_law_751 : decode cL_law 751 = .ok (.invokevirtual 122, 3) := by decide +kernel
theorem dL_law_754 : decode cL_law 754 = .ok (.aload_n 2, 1) := by decide +kernel
theorem dL_law_755 : decode cL_law 755 = .ok (.invokevirtual 125, 3) := by decide +kernel
theorem dL_law_758 : decode cL_law 758 = .ok (.if_icmp .eq 650, 3) := by decide +kernel
theorem dL_law_761 : decode cL_law 761 = .ok (.iconst 0, 1) := by decide +kernel
theorem dL_law_762 : decode cL_law 762 = .ok (.ireturn, 1) := by decide +kernel
theorem dL_law_763 : decode cL_law 763 = .ok (.aload_n 1, 1) := by decide +kernel
theorem dL_law_764 : decode cL_law 764 = .ok (.aload_n 0, 1) := by decide +kernel
theorem dL_law_765 : decode cL_law 765 = .ok (.iload 4, 2) := by decide +kernel
theorem dL_law_767 : decode cL_law 767 = .ok (.iconst 1, 1) := by decide +kernel
theorem dL_law_768 : decode cL_law 768 = .ok (.iadd, 1) := by decide +kernel
theorem dL_law_769 : decode cL_law 769 = .ok (.iaload, 1) := by decide +kernel
theorem dL_law_770 : decode cL_law 770 = .ok (.aload_n 0, 1) := by decide +kernel
theorem dL_law_771 : decode cL_law 771 = .ok (.iload 4, 2) := by decide +kernel
theorem dL_law_773 : decode cL_law 773 = .ok (.iconst 2, 1) := by decide +kernel
theorem dL_law_774 : decode cL_law 774 = .ok (.iadd, 1) := by decide +kernel
theorem dL_law_775 : decode cL_law 775 = .ok (.iaload, 1) := by decide +kernel
theorem dL_law_776 : decode cL_law 776 = .ok (.aload_n 3, 1) := by decide +kernel
theorem dL_law_777 : decode cL_law 777 = .ok (.invokestatic 126, 3) := by decide +kernel
theorem dL_law_780 : decode cL_law 780 = .ok (.istore 5, 2) := by decide +kernel
theorem dL_law_782 : decode cL_law 782 = .ok (.aload_n 2, 1) := by decide +kernel
theorem dL_law_783 : decode cL_law 783 = .ok (.aload_n 0, 1) := by decide +kernel
theorem dL_law_784 : decode cL_law 784 = .ok (.iload 4, 2) := by decide +kernel
theorem dL_law_786 : decode cL_law 786 = .ok (.iconst 1, 1) := by decide +kernel
theorem dL_law_787 : decode cL_law 787 = .ok (.iadd, 1) := by decide +kernel
theorem dL_law_788 : decode cL_law 788 = .ok (.iaload, 1) := by decide +kernel
theorem dL_law_789 : decode cL_law 789 = .ok (.aload_n 0, 1) := by decide +kernel
theorem dL_law_790 : decode cL_law 790 = .ok (.iload 4, 2) := by decide +kernel
theorem dL_law_792 : decode cL_law 792 = .ok (.iconst 2, 1) := by decide +kernel
theorem dL_law_793 : decode cL_law 793 = .ok (.iadd, 1) := by decide +kernel
theorem dL_law_794 : decode cL_law 794 = .ok (.iaload, 1) := by decide +kernel
theorem dL_law_795 : decode cL_law 795 = .ok (.invokevirtual 128, 3) := by decide +kernel
theorem dL_law_798 : decode cL_law 798 = .ok (.istore 6, 2) := by decide +kernel
theorem dL_law_800 : decode cL_law 800 = .ok (.aload_n 2, 1) := by decide +kernel
theorem dL_law_801 : decode cL_law 801 = .ok (.invokevirtual 83, 3) := by decide +kernel
theorem dL_law_804 : decode cL_law 804 = .ok (.iload 5, 2) := by decide +kernel
theorem dL_law_806 : decode cL_law 806 = .ok (.if_icmp .eq 5, 3) := by decide +kernel
theorem dL_law_809 : decode cL_law 809 = .ok (.iconst 0, 1) := by decide +kernel
theorem dL_law_810 : decode cL_law 810 = .ok (.ireturn, 1) := by decide +kernel
theorem dL_law_811 : decode cL_law 811 = .ok (.iload 5, 2) := by decide +kernel
theorem dL_law_813 : decode cL_law 813 = .ok (.ifCond .ne 15, 3) := by decide +kernel
theorem dL_law_816 : decode cL_law 816 = .ok (.aload_n 3, 1) := by decide +kernel
theorem dL_law_817 : decode cL_law 817 = .ok (.iconst 0, 1) := by decide +kernel
theorem dL_law_818 : decode cL_law 818 = .ok (.laload, 1) := by decide +kernel
theorem dL_law_819 : decode cL_law 819 = .ok (.iload 6, 2) := by decide +kernel
theorem dL_law_821 : decode cL_law 821 = .ok (.i2l, 1) := by decide +kernel
theorem dL_law_822 : decode cL_law 822 = .ok (.lcmp, 1) := by decide +kernel
theorem dL_law_823 : decode cL_law 823 = .ok (.ifCond .eq 5, 3) := by decide +kernel
theorem dL_law_826 : decode cL_law 826 = .ok (.iconst 0, 1) := by decide +kernel
theorem dL_law_827 : decode cL_law 827 = .ok (.ireturn, 1) := by decide +kernel
theorem dL_law_828 : decode cL_law 828 = .ok (.goto 580, 3) := by decide +kernel
theorem dL_law_831 : decode cL_law 831 = .ok (.aload_n 1, 1) := by decide +kernel
theorem dL_law_832 : decode cL_law 832 = .ok (.aload_n 0, 1) := by decide +kernel
theorem dL_law_833 : decode cL_law 833 = .ok (.iload 4, 2) := by decide +kernel
theorem dL_law_835 : decode cL_law 835 = .ok (.iconst 1, 1) := by decide +kernel
theorem dL_law_836 : decode cL_law 836 = .ok (.iadd, 1) := by decide +kernel
theorem dL_law_837 : decode cL_law 837 = .ok (.iaload, 1) := by decide +kernel
theorem dL_law_838 : decode cL_law 838 = .ok (.aload_n 3, 1) := by decide +kernel
theorem dL_law_839 : decode cL_law 839 = .ok (.invokestatic 129, 3) := by decide +kernel
theorem dL_law_842 : decode cL_law 842 = .ok (.istore 5, 2) := by decide +kernel
theorem dL_law_844 : decode cL_law 844 = .ok (.aload_n 2, 1) := by decide +kernel
theorem dL_law_845 : decode cL_law 845 = .ok (.aload_n 0, 1) := by decide +kernel
theorem dL_law_846 : decode cL_law 846 = .ok (.iload 4, 2) := by decide +kernel
theorem dL_law_848 : decode cL_law 848 = .ok (.iconst 1, 1) := by decide +kernel
theorem dL_law_849 : decode cL_law 849 = .ok (.iadd, 1) := by decide +kernel
theorem dL_law_850 : decode cL_law 850 = .ok (.iaload, 1) := by decide +kernel
theorem dL_law_851 : decode cL_law 851 = .ok (.invokevirtual 131, 3) := by decide +kernel
theorem dL_law_854 : decode cL_law 854 = .ok (.istore 6, 2) := by decide +kernel
theorem dL_law_856 : decode cL_law 856 = .ok (.aload_n 2, 1) := by decide +kernel
theorem dL_law_857 : decode cL_law 857 = .ok (.invokevirtual 83, 3) := by decide +kernel
theorem dL_law_860 : decode cL_law 860 = .ok (.iload 5, 2) := by decide +kernel
theorem dL_law_862 : decode cL_law 862 = .ok (.if_icmp .eq 5, 3) := by decide +kernel
theorem dL_law_865 : decode cL_law 865 = .ok (.iconst 0, 1) := by decide +kernel
theorem dL_law_866 : decode cL_law 866 = .ok (.ireturn, 1) := by decide +kernel
theorem dL_law_867 : decode cL_law 867 = .ok (.iload 5, 2) := by decide +kernel
theorem dL_law_869 : decode cL_law 869 = .ok (.ifCond .ne 15, 3) := by decide +kernel
theorem dL_law_872 : decode cL_law 872 = .ok (.aload_n 3, 1) := by decide +kernel
theorem dL_law_873 : decode cL_law 873 = .ok (.iconst 0, 1) := by decide +kernel
theorem dL_law_874 : decode cL_law 874 = .ok (.laload, 1) := by decide +kernel
theorem dL_law_875 : decode cL_law 875 = .ok (.iload 6, 2) := by decide +kernel
theorem dL_law_877 : decode cL_law 877 = .ok (.i2l, 1) := by decide +kernel
theorem dL_law_878 : decode cL_law 878 = .ok (.lcmp, 1) := by decide +kernel
theorem dL_law_879 : decode cL_law 879 = .ok (.ifCond .eq 5, 3) := by decide +kernel
theorem dL_law_882 : decode cL_law 882 = .ok (.iconst 0, 1) := by decide +kernel
theorem dL_law_883 : decode cL_law 883 = .ok (.ireturn, 1) := by decide +kernel
theorem dL_law_884 : decode cL_law 884 = .ok (.goto 524, 3) := by decide +kernel
theorem dL_law_887 : decode cL_law 887 = .ok (.aload_n 1, 1) := by decide +kernel
theorem dL_law_888 : decode cL_law 888 = .ok (.aload_n 0, 1) := by decide +kernel
theorem dL_law_889 : decode cL_law 889 = .ok (.iload 4, 2) := by decide +kernel
theorem dL_law_891 : decode cL_law 891 = .ok (.iconst 1, 1) := by decide +kernel
theorem dL_law_892 : decode cL_law 892 = .ok (.iadd, 1) := by decide +kernel
theorem dL_law_893 : decode cL_law 893 = .ok (.iaload, 1) := by decide +kernel
theorem dL_law_894 : decode cL_law 894 = .ok (.aload_n 0, 1) := by decide +kernel
theorem dL_law_895 : decode cL_law 895 = .ok (.iload 4, 2) := by decide +kernel
theorem dL_law_897 : decode cL_law 897 = .ok (.iconst 2, 1) := by decide +kernel
theorem dL_law_898 : decode cL_law 898 = .ok (.iadd, 1) := by decide +kernel
theorem dL_law_899 : decode cL_law 899 = .ok (.iaload, 1) := by decide +kernel
theorem dL_law_900 : decode cL_law 900 = .ok (.aload_n 3, 1) := by decide +kernel
theorem dL_law_901 : decode cL_law 901 = .ok (.invokestatic 132, 3) := by decide +kernel
theorem dL_law_904 : decode cL_law 904 = .ok (.istore 5, 2) := by decide +kernel
theorem dL_law_906 : decode cL_law 906 = .ok (.aload_n 2, 1) := by decide +kernel
theorem dL_law_907 : decode cL_law 907 = .ok (.aload_n 0, 1) := by decide +kernel
theorem dL_law_908 : decode cL_law 908 = .ok (.iload 4, 2) := by decide +kernel
theorem dL_law_910 : decode cL_law 910 = .ok (.iconst 1, 1) := by decide +kernel
theorem dL_law_911 : decode cL_law 911 = .ok (.iadd, 1) := by decide +kernel
theorem dL_law_912 : decode cL_law 912 = .ok (.iaload, 1) := by decide +kernel
theorem dL_law_913 : decode cL_law 913 = .ok (.aload_n 0, 1) := by decide +kernel
theorem dL_law_914 : decode cL_law 914 = .ok (.iload 4, 2) := by decide +kernel
theorem dL_law_916 : decode cL_law 916 = .ok (.iconst 2, 1) := by decide +kernel
theorem dL_law_917 : decode cL_law 917 = .ok (.iadd, 1) := by decide +kernel
theorem dL_law_918 : decode cL_law 918 = .ok (.iaload, 1) := by decide +kernel
theorem dL_law_919 : decode cL_law 919 = .ok (.invokevirtual 134, 3) := by decide +kernel
theorem dL_law_922 : decode cL_law 922 = .ok (.lstore 6, 2) := by decide +kernel
theorem dL_law_924 : decode cL_law 924 = .ok (.aload_n 2, 1) := by decide +kernel
theorem dL_law_925 : decode cL_law 925 = .ok (.invokevirtual 83, 3) := by decide +kernel
theorem dL_law_928 : decode cL_law 928 = .ok (.iload 5, 2) := by decide +kernel
theorem dL_law_930 : decode cL_law 930 = .ok (.if_icmp .eq 5, 3) := by decide +kernel
theorem dL_law_933 : decode cL_law 933 = .ok (.iconst 0, 1) := by decide +kernel
theorem dL_law_934 : decode cL_law 934 = .ok (.ireturn, 1) := by decide +kernel
theorem dL_law_935 : decode cL_law 935 = .ok (.iload 5, 2) := by decide +kernel
theorem dL_law_937 : decode cL_law 937 = .ok (.ifCond .ne 14, 3) := by decide +kernel
theorem dL_law_940 : decode cL_law 940 = .ok (.aload_n 3, 1) := by decide +kernel
theorem dL_law_941 : decode cL_law 941 = .ok (.iconst 0, 1) := by decide +kernel
theorem dL_law_942 : decode cL_law 942 = .ok (.laload, 1) := by decide +kernel
theorem dL_law_943 : decode cL_law 943 = .ok (.lload 6, 2) := by decide +kernel
theorem dL_law_945 : decode cL_law 945 = .ok (.lcmp, 1) := by decide +kernel
theorem dL_law_946 : decode cL_law 946 = .ok (.ifCond .eq 5, 3) := by decide +kernel
theorem dL_law_949 : decode cL_law 949 = .ok (.iconst 0, 1) := by decide +kernel
theorem dL_law_950 : decode cL_law 950 = .ok (.ireturn, 1) := by decide +kernel
theorem dL_law_951 : decode cL_law 951 = .ok (.goto 457, 3) := by decide +kernel
theorem dL_law_954 : decode cL_law 954 = .ok (.aload_n 1, 1) := by decide +kernel
theorem dL_law_955 : decode cL_law 955 = .ok (.invokevirtual 135, 3) := by decide +kernel
theorem dL_law_958 : decode cL_law 958 = .ok (.aload_n 2, 1) := by decide +kernel
theorem dL_law_959 : decode cL_law 959 = .ok (.invokevirtual 138, 3) := by decide +kernel
theorem dL_law_962 : decode cL_law 962 = .ok (.if_icmp .eq 446, 3) := by decide +kernel
theorem dL_law_965 : decode cL_law 965 = .ok (.iconst 0, 1) := by decide +kernel
theorem dL_law_966 : decode cL_law 966 = .ok (.ireturn, 1) := by decide +kernel
theorem dL_law_967 : decode cL_law 967 = .ok (.aload_n 1, 1) := by decide +kernel
theorem dL_law_968 : decode cL_law 968 = .ok (.aload_n 0, 1) := by decide +kernel
theorem dL_law_969 : decode cL_law 969 = .ok (.iload 4, 2) := by decide +kernel
theorem dL_law_971 : decode cL_law 971 = .ok (.iconst 1, 1) := by decide +kernel
theorem dL_law_972 : decode cL_law 972 = .ok (.iadd, 1) := by decide +kernel
theorem dL_law_973 : decode cL_law 973 = .ok (.iaload, 1) := by decide +kernel
theorem dL_law_974 : decode cL_law 974 = .ok (.aload_n 0, 1) := by decide +kernel
theorem dL_law_975 : decode cL_law 975 = .ok (.iload 4, 2) := by decide +kernel
theorem dL_law_977 : decode cL_law 977 = .ok (.iconst 2, 1) := by decide +kernel
theorem dL_law_978 : decode cL_law 978 = .ok (.iadd, 1) := by decide +kernel
theorem dL_law_979 : decode cL_law 979 = .ok (.iaload, 1) := by decide +kernel
theorem dL_law_980 : decode cL_law 980 = .ok (.aload_n 0, 1) := by decide +kernel
theorem dL_law_981 : decode cL_law 981 = .ok (.iload 4, 2) := by decide +kernel
theorem dL_law_983 : decode cL_law 983 = .ok (.iconst 3, 1) := by decide +kernel
theorem dL_law_984 : decode cL_law 984 = .ok (.iadd, 1) := by decide +kernel
theorem dL_law_985 : decode cL_law 985 = .ok (.iaload, 1) := by decide +kernel
theorem dL_law_986 : decode cL_law 986 = .ok (.aload_n 3, 1) := by decide +kernel
theorem dL_law_987 : decode cL_law 987 = .ok (.invokestatic 139, 3) := by decide +kernel
theorem dL_law_990 : decode cL_law 990 = .ok (.istore 5, 2) := by decide +kernel
theorem dL_law_992 : decode cL_law 992 = .ok (.aload_n 2, 1) := by decide +kernel
theorem dL_law_993 : decode cL_law 993 = .ok (.aload_n 0, 1) := by decide +kernel
theorem dL_law_994 : decode cL_law 994 = .ok (.iload 4, 2) := by decide +kernel
theorem dL_law_996 : decode cL_law 996 = .ok (.iconst 1, 1) := by decide +kernel
theorem dL_law_997 : decode cL_law 997 = .ok (.iadd, 1) := by decide +kernel
theorem dL_law_998 : decode cL_law 998 = .ok (.iaload, 1) := by decide +kernel
theorem dL_law_999 : decode cL_law 999 = .ok (.aload_n 0, 1) := by decide +kernel
theorem dL_law_1000 : decode cL_law 1000 = .ok (.iload 4, 2) := by decide +kernel
theorem dL_law_1002 : decode cL_law 1002 = .ok (.iconst 2, 1) := by decide +kernel
theorem dL_law_1003 : decode cL_law 1003 = .ok (.iadd, 1) := by decide +kernel
theorem dL_law_1004 : decode cL_law 1004 = .ok (.iaload, 1) := by decide +kernel
theorem dL_law_1005 : decode cL_law 1005 = .ok (.aload_n 0, 1) := by decide +kernel
theorem dL_law_1006 : decode cL_law 1006 = .ok (.iload 4, 2) := by decide +kernel
theorem dL_law_1008 : decode cL_law 1008 = .ok (.iconst 3, 1) := by decide +kernel
theorem dL_law_1009 : decode cL_law 1009 = .ok (.iadd, 1) := by decide +kernel
theorem dL_law_1010 : decode cL_law 1010 = .ok (.iaload, 1) := by decide +kernel
theorem dL_law_1011 : decode cL_law 1011 = .ok (.invokevirtual 142, 3) := by decide +kernel
theorem dL_law_1014 : decode cL_law 1014 = .ok (.lstore 6, 2) := by decide +kernel
theorem dL_law_1016 : decode cL_law 1016 = .ok (.aload_n 2, 1) := by decide +kernel
theorem dL_law_1017 : decode cL_law 1017 = .ok (.invokevirtual 83, 3) := by decide +kernel
theorem dL_law_1020 : decode cL_law 1020 = .ok (.iload 5, 2) := by decide +kernel
theorem dL_law_1022 : decode cL_law 1022 = .ok (.if_icmp .eq 5, 3) := by decide +kernel
theorem dL_law_1025 : decode cL_law 1025 = .ok (.iconst 0, 1) := by decide +kernel
theorem dL_law_1026 : decode cL_law 1026 = .ok (.ireturn, 1) := by decide +kernel
theorem dL_law_1027 : decode cL_law 1027 = .ok (.iload 5, 2) := by decide +kernel
theorem dL_law_1029 : decode cL_law 1029 = .ok (.ifCond .ne 14, 3) := by decide +kernel
theorem dL_law_1032 : decode cL_law 1032 = .ok (.aload_n 3, 1) := by decide +kernel
theorem dL_law_1033 : decode cL_law 1033 = .ok (.iconst 0, 1) := by decide +kernel
theorem dL_law_1034 : decode cL_law 1034 = .ok (.laload, 1) := by decide +kernel
theorem dL_law_1035 : decode cL_law 1035 = .ok (.lload 6, 2) := by decide +kernel
theorem dL_law_1037 : decode cL_law 1037 = .ok (.lcmp, 1) := by decide +kernel
theorem dL_law_1038 : decode cL_law 1038 = .ok (.ifCond .eq 5, 3) := by decide +kernel
theorem dL_law_1041 : decode cL_law 1041 = .ok (.iconst 0, 1) := by decide +kernel
theorem dL_law_1042 : decode cL_law 1042 = .ok (.ireturn, 1) := by decide +kernel
theorem dL_law_1043 : decode cL_law 1043 = .ok (.goto 365, 3) := by decide +kernel
theorem dL_law_1046 : decode cL_law 1046 = .ok (.aload_n 1, 1) := by decide +kernel
theorem dL_law_1047 : decode cL_law 1047 = .ok (.aload_n 0, 1) := by decide +kernel
theorem dL_law_1048 : decode cL_law 1048 = .ok (.iload 4, 2) := by decide +kernel
theorem dL_law_1050 : decode cL_law 1050 = .ok (.iconst 1, 1) := by decide +kernel
theorem dL_law_1051 : decode cL_law 1051 = .ok (.iadd, 1) := by decide +kernel
theorem dL_law_1052 : decode cL_law 1052 = .ok (.iaload, 1) := by decide +kernel
theorem dL_law_1053 : decode cL_law 1053 = .ok (.aload_n 0, 1) := by decide +kernel
theorem dL_law_1054 : decode cL_law 1054 = .ok (.iload 4, 2) := by decide +kernel
theorem dL_law_1056 : decode cL_law 1056 = .ok (.iconst 2, 1) := by decide +kernel
theorem dL_law_1057 : decode cL_law 1057 = .ok (.iadd, 1) := by decide +kernel
theorem dL_law_1058 : decode cL_law 1058 = .ok (.iaload, 1) := by decide +kernel
theorem dL_law_1059 : decode cL_law 1059 = .ok (.aload_n 3, 1) := by decide +kernel
theorem dL_law_1060 : decode cL_law 1060 = .ok (.invokestatic 143, 3) := by decide +kernel
theorem dL_law_1063 : decode cL_law 1063 = .ok (.istore 5, 2) := by decide +kernel
theorem dL_law_1065 : decode cL_law 1065 = .ok (.aload_n 2, 1) := by decide +kernel
theorem dL_law_1066 : decode cL_law 1066 = .ok (.aload_n 0, 1) := by decide +kernel
theorem dL_law_1067 : decode cL_law 1067 = .ok (.iload 4, 2) := by decide +kernel
theorem dL_law_1069 : decode cL_law 1069 = .ok (.iconst 1, 1) := by decide +kernel
theorem dL_law_1070 : decode cL_law 1070 = .ok (.iadd, 1) := by decide +kernel
theorem dL_law_1071 : decode cL_law 1071 = .ok (.iaload, 1) := by decide +kernel
theorem dL_law_1072 : decode cL_law 1072 = .ok (.aload_n 0, 1) := by decide +kernel
theorem dL_law_1073 : decode cL_law 1073 = .ok (.iload 4, 2) := by decide +kernel
theorem dL_law_1075 : decode cL_law 1075 = .ok (.iconst 2, 1) := by decide +kernel
theorem dL_law_1076 : decode cL_law 1076 = .ok (.iadd, 1) := by decide +kernel
theorem dL_law_1077 : decode cL_law 1077 = .ok (.iaload, 1) := by decide +kernel
theorem dL_law_1078 : decode cL_law 1078 = .ok (.invokevirtual 145, 3) := by decide +kernel
theorem dL_law_1081 : decode cL_law 1081 = .ok (.istore 6, 2) := by decide +kernel
theorem dL_law_1083 : decode cL_law 1083 = .ok (.aload_n 2, 1) := by decide +kernel
theorem dL_law_1084 : decode cL_law 1084 = .ok (.invokevirtual 83, 3) := by decide +kernel
theorem dL_law_1087 : decode cL_law 1087 = .ok (.iload 5, 2) := by decide +kernel
theorem dL_law_1089 : decode cL_law 1089 = .ok (.if_icmp .eq 5, 3) := by decide +kernel
theorem dL_law_1092 : decode cL_law 1092 = .ok (.iconst 0, 1) := by decide +kernel
theorem dL_law_1093 : decode cL_law 1093 = .ok (.ireturn, 1) := by decide +kernel
theorem dL_law_1094 : decode cL_law 1094 = .ok (.iload 5, 2) := by decide +kernel
theorem dL_law_1096 : decode cL_law 1096 = .ok (.ifCond .ne 22, 3) := by decide +kernel
theorem dL_law_1099 : decode cL_law 1099 = .ok (.aload_n 3, 1) := by decide +kernel
theorem dL_law_1100 : decode cL_law 1100 = .ok (.iconst 0, 1) := by decide +kernel
theorem dL_law_1101 : decode cL_law 1101 = .ok (.laload, 1) := by decide +kernel
theorem dL_law_1102 : decode cL_law 1102 = .ok (.iload 6, 2) := by decide +kernel
theorem dL_law_1104 : decode cL_law 1104 = .ok (.ifCond .eq 7, 3) := by decide +kernel
theorem dL_law_1107 : decode cL_law 1107 = .ok (.lconst 1, 1) := by decide +kernel
theorem dL_law_1108 : decode cL_law 1108 = .ok (.goto 4, 3) := by decide +kernel
theorem dL_law_1111 : decode cL_law 1111 = .ok (.lconst 0, 1) := by decide +kernel
theorem dL_law_1112 : decode cL_law 1112 = .ok (.lcmp, 1) := by decide +kernel
theorem dL_law_1113 : decode cL_law 1113 = .ok (.ifCond .eq 5, 3) := by decide +kernel
theorem dL_law_1116 : decode cL_law 1116 = .ok (.iconst 0, 1) := by decide +kernel
theorem dL_law_1117 : decode cL_law 1117 = .ok (.ireturn, 1) := by decide +kernel
theorem dL_law_1118 : decode cL_law 1118 = .ok (.goto 290, 3) := by decide +kernel
theorem dL_law_1121 : decode cL_law 1121 = .ok (.aload_n 1, 1) := by decide +kernel
theorem dL_law_1122 : decode cL_law 1122 = .ok (.aload_n 0, 1) := by decide +kernel
theorem dL_law_1123 : decode cL_law 1123 = .ok (.iload 4, 2) := by decide +kernel
theorem dL_law_1125 : decode cL_law 1125 = .ok (.iconst 1, 1) := by decide +kernel
theorem dL_law_1126 : decode cL_law 1126 = .ok (.iadd, 1) := by decide +kernel
theorem dL_law_1127 : decode cL_law 1127 = .ok (.iaload, 1) := by decide +kernel
theorem dL_law_1128 : decode cL_law 1128 = .ok (.aload_n 0, 1) := by decide +kernel
theorem dL_law_1129 : decode cL_law 1129 = .ok (.iload 4, 2) := by decide +kernel
theorem dL_law_1131 : decode cL_law 1131 = .ok (.iconst 2, 1) := by decide +kernel
theorem dL_law_1132 : decode cL_law 1132 = .ok (.iadd, 1) := by decide +kernel
theorem dL_law_1133 : decode cL_law 1133 = .ok (.iaload, 1) := by decide +kernel
theorem dL_law_1134 : decode cL_law 1134 = .ok (.aload_n 3, 1) := by decide +kernel
theorem dL_law_1135 : decode cL_law 1135 = .ok (.invokestatic 146, 3) := by decide +kernel
theorem dL_law_1138 : decode cL_law 1138 = .ok (.istore 5, 2) := by decide +kernel
theorem dL_law_1140 : decode cL_law 1140 = .ok (.aload_n 2, 1) := by decide +kernel
theorem dL_law_1141 : decode cL_law 1141 = .ok (.aload_n 0, 1) := by decide +kernel
theorem dL_law_1142 : decode cL_law 1142 = .ok (.iload 4, 2) := by decide +kernel
theorem dL_law_1144 : decode cL_law 1144 = .ok (.iconst 1, 1) := by decide +kernel
theorem dL_law_1145 : decode cL_law 1145 = .ok (.iadd, 1) := by decide +kernel
theorem dL_law_1146 : decode cL_law 1146 = .ok (.iaload, 1) := by decide +kernel
theorem dL_law_1147 : decode cL_law 1147 = .ok (.aload_n 0, 1) := by decide +kernel
theorem dL_law_1148 : decode cL_law 1148 = .ok (.iload 4, 2) := by decide +kernel
theorem dL_law_1150 : decode cL_law 1150 = .ok (.iconst 2, 1) := by decide +kernel
theorem dL_law_1151 : decode cL_law 1151 = .ok (.iadd, 1) := by decide +kernel
theorem dL_law_1152 : decode cL_law 1152 = .ok (.iaload, 1) := by decide +kernel
theorem dL_law_1153 : decode cL_law 1153 = .ok (.invokevirtual 148, 3) := by decide +kernel
theorem dL_law_1156 : decode cL_law 1156 = .ok (.istore 6, 2) := by decide +kernel
theorem dL_law_1158 : decode cL_law 1158 = .ok (.aload_n 2, 1) := by decide +kernel
theorem dL_law_1159 : decode cL_law 1159 = .ok (.invokevirtual 83, 3) := by decide +kernel
theorem dL_law_1162 : decode cL_law 1162 = .ok (.iload 5, 2) := by decide +kernel
theorem dL_law_1164 : decode cL_law 1164 = .ok (.if_icmp .eq 5, 3) := by decide +kernel
theorem dL_law_1167 : decode cL_law 1167 = .ok (.iconst 0, 1) := by decide +kernel
theorem dL_law_1168 : decode cL_law 1168 = .ok (.ireturn, 1) := by decide +kernel
theorem dL_law_1169 : decode cL_law 1169 = .ok (.iload 5, 2) := by decide +kernel
theorem dL_law_1171 : decode cL_law 1171 = .ok (.ifCond .ne 15, 3) := by decide +kernel
theorem dL_law_1174 : decode cL_law 1174 = .ok (.aload_n 3, 1) := by decide +kernel
theorem dL_law_1175 : decode cL_law 1175 = .ok (.iconst 0, 1) := by decide +kernel
theorem dL_law_1176 : decode cL_law 1176 = .ok (.laload, 1) := by decide +kernel
theorem dL_law_1177 : decode cL_law 1177 = .ok (.iload 6, 2) := by decide +kernel
theorem dL_law_1179 : decode cL_law 1179 = .ok (.i2l, 1) := by decide +kernel
theorem dL_law_1180 : decode cL_law 1180 = .ok (.lcmp, 1) := by decide +kernel
theorem dL_law_1181 : decode cL_law 1181 = .ok (.ifCond .eq 5, 3) := by decide +kernel
theorem dL_law_1184 : decode cL_law 1184 = .ok (.iconst 0, 1) := by decide +kernel
theorem dL_law_1185 : decode cL_law 1185 = .ok (.ireturn, 1) := by decide +kernel
theorem dL_law_1186 : decode cL_law 1186 = .ok (.goto 222, 3) := by decide +kernel
theorem dL_law_1189 : decode cL_law 1189 = .ok (.aload_n 1, 1) := by decide +kernel
theorem dL_law_1190 : decode cL_law 1190 = .ok (.aload_n 0, 1) := by decide +kernel
theorem dL_law_1191 : decode cL_law 1191 = .ok (.iload 4, 2) := by decide +kernel
theorem dL_law_1193 : decode cL_law 1193 = .ok (.iconst 1, 1) := by decide +kernel
theorem dL_law_1194 : decode cL_law 1194 = .ok (.iadd, 1) := by decide +kernel
theorem dL_law_1195 : decode cL_law 1195 = .ok (.iaload, 1) := by decide +kernel
theorem dL_law_1196 : decode cL_law 1196 = .ok (.i2l, 1) := by decide +kernel
theorem dL_law_1197 : decode cL_law 1197 = .ok (.bipush 32, 2) := by decide +kernel
theorem dL_law_1199 : decode cL_law 1199 = .ok (.lshl, 1) := by decide +kernel
theorem dL_law_1200 : decode cL_law 1200 = .ok (.aload_n 0, 1) := by decide +kernel
theorem dL_law_1201 : decode cL_law 1201 = .ok (.iload 4, 2) := by decide +kernel
theorem dL_law_1203 : decode cL_law 1203 = .ok (.iconst 2, 1) := by decide +kernel
theorem dL_law_1204 : decode cL_law 1204 = .ok (.iadd, 1) := by decide +kernel
theorem dL_law_1205 : decode cL_law 1205 = .ok (.iaload, 1) := by decide +kernel
theorem dL_law_1206 : decode cL_law 1206 = .ok (.i2l, 1) := by decide +kernel
theorem dL_law_1207 : decode cL_law 1207 = .ok (.ldc2_w 149, 3) := by decide +kernel
theorem dL_law_1210 : decode cL_law 1210 = .ok (.land, 1) := by decide +kernel
theorem dL_law_1211 : decode cL_law 1211 = .ok (.lor, 1) := by decide +kernel
theorem dL_law_1212 : decode cL_law 1212 = .ok (.aload_n 0, 1) := by decide +kernel
theorem dL_law_1213 : decode cL_law 1213 = .ok (.iload 4, 2) := by decide +kernel
theorem dL_law_1215 : decode cL_law 1215 = .ok (.iconst 3, 1) := by decide +kernel
theorem dL_law_1216 : decode cL_law 1216 = .ok (.iadd, 1) := by decide +kernel
theorem dL_law_1217 : decode cL_law 1217 = .ok (.iaload, 1) := by decide +kernel
theorem dL_law_1218 : decode cL_law 1218 = .ok (.invokevirtual 151, 3) := by decide +kernel
theorem dL_law_1221 : decode cL_law 1221 = .ok (.aload_n 2, 1) := by decide +kernel
theorem dL_law_1222 : decode cL_law 1222 = .ok (.aload_n 0, 1) := by decide +kernel
theorem dL_law_1223 : decode cL_law 1223 = .ok (.iload 4, 2) := by decide +kernel
theorem dL_law_1225 : decode cL_law 1225 = .ok (.iconst 1, 1) := by decide +kernel
theorem dL_law_1226 : decode cL_law 1226 = .ok (.iadd, 1) := by decide +kernel
theorem dL_law_1227 : decode cL_law 1227 = .ok (.iaload, 1) := by decide +kernel
theorem dL_law_1228 : decode cL_law 1228 = .ok (.i2l, 1) := by decide +kernel
theorem dL_law_1229 : decode cL_law 1229 = .ok (.bipush 32, 2) := by decide +kernel
theorem dL_law_1231 : decode cL_law 1231 = .ok (.lshl, 1) := by decide +kernel
theorem dL_law_1232 : decode cL_law 1232 = .ok (.aload_n 0, 1) := by decide +kernel
theorem dL_law_1233 : decode cL_law 1233 = .ok (.iload 4, 2) := by decide +kernel
theorem dL_law_1235 : decode cL_law 1235 = .ok (.iconst 2, 1) := by decide +kernel
theorem dL_law_1236 : decode cL_law 1236 = .ok (.iadd, 1) := by decide +kernel
theorem dL_law_1237 : decode cL_law 1237 = .ok (.iaload, 1) := by decide +kernel
theorem dL_law_1238 : decode cL_law 1238 = .ok (.i2l, 1) := by decide +kernel
theorem dL_law_1239 : decode cL_law 1239 = .ok (.ldc2_w 149, 3) := by decide +kernel
theorem dL_law_1242 : decode cL_law 1242 = .ok (.land, 1) := by decide +kernel
theorem dL_law_1243 : decode cL_law 1243 = .ok (.lor, 1) := by decide +kernel
theorem dL_law_1244 : decode cL_law 1244 = .ok (.aload_n 0, 1) := by decide +kernel
theorem dL_law_1245 : decode cL_law 1245 = .ok (.iload 4, 2) := by decide +kernel
theorem dL_law_1247 : decode cL_law 1247 = .ok (.iconst 3, 1) := by decide +kernel
theorem dL_law_1248 : decode cL_law 1248 = .ok (.iadd, 1) := by decide +kernel
theorem dL_law_1249 : decode cL_law 1249 = .ok (.iaload, 1) := by decide +kernel
theorem dL_law_1250 : decode cL_law 1250 = .ok (.invokevirtual 155, 3) := by decide +kernel
theorem dL_law_1253 : decode cL_law 1253 = .ok (.if_icmp .eq 155, 3) := by decide +kernel
theorem dL_law_1256 : decode cL_law 1256 = .ok (.iconst 0, 1) := by decide +kernel
theorem dL_law_1257 : decode cL_law 1257 = .ok (.ireturn, 1) := by decide +kernel
theorem dL_law_1258 : decode cL_law 1258 = .ok (.aload_n 1, 1) := by decide +kernel
theorem dL_law_1259 : decode cL_law 1259 = .ok (.aload_n 0, 1) := by decide +kernel
theorem dL_law_1260 : decode cL_law 1260 = .ok (.iload 4, 2) := by decide +kernel
theorem dL_law_1262 : decode cL_law 1262 = .ok (.iconst 1, 1) := by decide +kernel
theorem dL_law_1263 : decode cL_law 1263 = .ok (.iadd, 1) := by decide +kernel
theorem dL_law_1264 : decode cL_law 1264 = .ok (.iaload, 1) := by decide +kernel
theorem dL_law_1265 : decode cL_law 1265 = .ok (.aload_n 3, 1) := by decide +kernel
theorem dL_law_1266 : decode cL_law 1266 = .ok (.invokestatic 156, 3) := by decide +kernel
theorem dL_law_1269 : decode cL_law 1269 = .ok (.istore 5, 2) := by decide +kernel
theorem dL_law_1271 : decode cL_law 1271 = .ok (.aload_n 2, 1) := by decide +kernel
theorem dL_law_1272 : decode cL_law 1272 = .ok (.aload_n 0, 1) := by decide +kernel
theorem dL_law_1273 : decode cL_law 1273 = .ok (.iload 4, 2) := by decide +kernel
theorem dL_law_1275 : decode cL_law 1275 = .ok (.iconst 1, 1) := by decide +kernel
theorem dL_law_1276 : decode cL_law 1276 = .ok (.iadd, 1) := by decide +kernel
theorem dL_law_1277 : decode cL_law 1277 = .ok (.iaload, 1) := by decide +kernel
theorem dL_law_1278 : decode cL_law 1278 = .ok (.invokevirtual 158, 3) := by decide +kernel
theorem dL_law_1281 : decode cL_law 1281 = .ok (.istore 6, 2) := by decide +kernel
theorem dL_law_1283 : decode cL_law 1283 = .ok (.aload_n 2, 1) := by decide +kernel
theorem dL_law_1284 : decode cL_law 1284 = .ok (.invokevirtual 83, 3) := by decide +kernel
theorem dL_law_1287 : decode cL_law 1287 = .ok (.iload 5, 2) := by decide +kernel
theorem dL_law_1289 : decode cL_law 1289 = .ok (.if_icmp .eq 5, 3) := by decide +kernel
theorem dL_law_1292 : decode cL_law 1292 = .ok (.iconst 0, 1) := by decide +kernel
theorem dL_law_1293 : decode cL_law 1293 = .ok (.ireturn, 1) := by decide +kernel
theorem dL_law_1294 : decode cL_law 1294 = .ok (.iload 5, 2) := by decide +kernel
theorem dL_law_1296 : decode cL_law 1296 = .ok (.ifCond .ne 15, 3) := by decide +kernel
theorem dL_law_1299 : decode cL_law 1299 = .ok (.aload_n 3, 1) := by decide +kernel
theorem dL_law_1300 : decode cL_law 1300 = .ok (.iconst 0, 1) := by decide +kernel
theorem dL_law_1301 : decode cL_law 1301 = .ok (.laload, 1) := by decide +kernel
theorem dL_law_1302 : decode cL_law 1302 = .ok (.iload 6, 2) := by decide +kernel
theorem dL_law_1304 : decode cL_law 1304 = .ok (.i2l, 1) := by decide +kernel
theorem dL_law_1305 : decode cL_law 1305 = .ok (.lcmp, 1) := by decide +kernel
theorem dL_law_1306 : decode cL_law 1306 = .ok (.ifCond .eq 5, 3) := by decide +kernel
theorem dL_law_1309 : decode cL_law 1309 = .ok (.iconst 0, 1) := by decide +kernel
theorem dL_law_1310 : decode cL_law 1310 = .ok (.ireturn, 1) := by decide +kernel
theorem dL_law_1311 : decode cL_law 1311 = .ok (.goto 97, 3) := by decide +kernel
theorem dL_law_1314 : decode cL_law 1314 = .ok (.aload_n 1, 1) := by decide +kernel
theorem dL_law_1315 : decode cL_law 1315 = .ok (.aload_n 0, 1) := by decide +kernel
theorem dL_law_1316 : decode cL_law 1316 = .ok (.iload 4, 2) := by decide +kernel
theorem dL_law_1318 : decode cL_law 1318 = .ok (.iconst 1, 1) := by decide +kernel
theorem dL_law_1319 : decode cL_law 1319 = .ok (.iadd, 1) := by decide +kernel
theorem dL_law_1320 : decode cL_law 1320 = .ok (.iaload, 1) := by decide +kernel
theorem dL_law_1321 : decode cL_law 1321 = .ok (.invokevirtual 159, 3) := by decide +kernel
theorem dL_law_1324 : decode cL_law 1324 = .ok (.aload_n 2, 1) := by decide +kernel
theorem dL_law_1325 : decode cL_law 1325 = .ok (.aload_n 0, 1) := by decide +kernel
theorem dL_law_1326 : decode cL_law 1326 = .ok (.iload 4, 2) := by decide +kernel
theorem dL_law_1328 : decode cL_law 1328 = .ok (.iconst 1, 1) := by decide +kernel
theorem dL_law_1329 : decode cL_law 1329 = .ok (.iadd, 1) := by decide +kernel
theorem dL_law_1330 : decode cL_law 1330 = .ok (.iaload, 1) := by decide +kernel
theorem dL_law_1331 : decode cL_law 1331 = .ok (.invokevirtual 162, 3) := by decide +kernel
theorem dL_law_1334 : decode cL_law 1334 = .ok (.if_icmp .eq 74, 3) := by decide +kernel
theorem dL_law_1337 : decode cL_law 1337 = .ok (.iconst 0, 1) := by decide +kernel
theorem dL_law_1338 : decode cL_law 1338 = .ok (.ireturn, 1) := by decide +kernel
theorem dL_law_1339 : decode cL_law 1339 = .ok (.aload_n 1, 1) := by decide +kernel
theorem dL_law_1340 : decode cL_law 1340 = .ok (.aload_n 0, 1) := by decide +kernel
theorem dL_law_1341 : decode cL_law 1341 = .ok (.iload 4, 2) := by decide +kernel
theorem dL_law_1343 : decode cL_law 1343 = .ok (.iconst 1, 1) := by decide +kernel
theorem dL_law_1344 : decode cL_law 1344 = .ok (.iadd, 1) := by decide +kernel
theorem dL_law_1345 : decode cL_law 1345 = .ok (.iaload, 1) := by decide +kernel
theorem dL_law_1346 : decode cL_law 1346 = .ok (.aload_n 3, 1) := by decide +kernel
theorem dL_law_1347 : decode cL_law 1347 = .ok (.invokestatic 163, 3) := by decide +kernel
theorem dL_law_1350 : decode cL_law 1350 = .ok (.istore 5, 2) := by decide +kernel
theorem dL_law_1352 : decode cL_law 1352 = .ok (.aload_n 2, 1) := by decide +kernel
theorem dL_law_1353 : decode cL_law 1353 = .ok (.aload_n 0, 1) := by decide +kernel
theorem dL_law_1354 : decode cL_law 1354 = .ok (.iload 4, 2) := by decide +kernel
theorem dL_law_1356 : decode cL_law 1356 = .ok (.iconst 1, 1) := by decide +kernel
theorem dL_law_1357 : decode cL_law 1357 = .ok (.iadd, 1) := by decide +kernel
theorem dL_law_1358 : decode cL_law 1358 = .ok (.iaload, 1) := by decide +kernel
theorem dL_law_1359 : decode cL_law 1359 = .ok (.invokevirtual 165, 3) := by decide +kernel
theorem dL_law_1362 : decode cL_law 1362 = .ok (.istore 6, 2) := by decide +kernel
theorem dL_law_1364 : decode cL_law 1364 = .ok (.aload_n 2, 1) := by decide +kernel
theorem dL_law_1365 : decode cL_law 1365 = .ok (.invokevirtual 83, 3) := by decide +kernel
theorem dL_law_1368 : decode cL_law 1368 = .ok (.iload 5, 2) := by decide +kernel
theorem dL_law_1370 : decode cL_law 1370 = .ok (.if_icmp .eq 5, 3) := by decide +kernel
theorem dL_law_1373 : decode cL_law 1373 = .ok (.iconst 0, 1) := by decide +kernel
theorem dL_law_1374 : decode cL_law 1374 = .ok (.ireturn, 1) := by decide +kernel
theorem dL_law_1375 : decode cL_law 1375 = .ok (.iload 5, 2) := by decide +kernel
theorem dL_law_1377 : decode cL_law 1377 = .ok (.ifCond .ne 15, 3) := by decide +kernel
theorem dL_law_1380 : decode cL_law 1380 = .ok (.aload_n 3, 1) := by decide +kernel
theorem dL_law_1381 : decode cL_law 1381 = .ok (.iconst 0, 1) := by decide +kernel
theorem dL_law_1382 : decode cL_law 1382 = .ok (.laload, 1) := by decide +kernel
theorem dL_law_1383 : decode cL_law 1383 = .ok (.iload 6, 2) := by decide +kernel
theorem dL_law_1385 : decode cL_law 1385 = .ok (.i2l, 1) := by decide +kernel
theorem dL_law_1386 : decode cL_law 1386 = .ok (.lcmp, 1) := by decide +kernel
theorem dL_law_1387 : decode cL_law 1387 = .ok (.ifCond .eq 5, 3) := by decide +kernel
theorem dL_law_1390 : decode cL_law 1390 = .ok (.iconst 0, 1) := by decide +kernel
theorem dL_law_1391 : decode cL_law 1391 = .ok (.ireturn, 1) := by decide +kernel
theorem dL_law_1392 : decode cL_law 1392 = .ok (.goto 16, 3) := by decide +kernel
theorem dL_law_1395 : decode cL_law 1395 = .ok (.aload_n 1, 1) := by decide +kernel
theorem dL_law_1396 : decode cL_law 1396 = .ok (.invokevirtual 166, 3) := by decide +kernel
theorem dL_law_1399 : decode cL_law 1399 = .ok (.aload_n 2, 1) := by decide +kernel
theorem dL_law_1400 : decode cL_law 1400 = .ok (.invokevirtual 169, 3) := by decide +kernel
theorem dL_law_1403 : decode cL_law 1403 = .ok (.if_icmp .eq 5, 3) := by decide +kernel
theorem dL_law_1406 : decode cL_law 1406 = .ok (.iconst 0, 1) := by decide +kernel
theorem dL_law_1407 : decode cL_law 1407 = .ok (.ireturn, 1) := by decide +kernel
theorem dL_law_1408 : decode cL_law 1408 = .ok (.iinc 4 6, 3) := by decide +kernel
theorem dL_law_1411 : decode cL_law 1411 = .ok (.goto (-1388), 3) := by decide +kernel
theorem dL_law_1414 : decode cL_law 1414 = .ok (.iconst 1, 1) := by decide +kernel
theorem dL_law_1415 : decode cL_law 1415 = .ok (.ireturn, 1) := by decide +kernel
